noncomputable def cif {α : Type} (P : Prop) (a b : α) : α := @ite α P (Classical.propDecidable P) a b
theorem cif_t {α : Type} {P : Prop} {a b : α} (h : P) : cif P a b = a := by unfold cif; exact if_pos h
theorem cif_f {α : Type} {P : Prop} {a b : α} (h : ¬ P) : cif P a b = b := by unfold cif; exact if_neg h
def wf (sg : Nat → Int32) (n m i : Nat) : Int := (WF sg (LPq sg n m) (LH sg n (LPq sg n m)) i : Nat)
def wt (sg : Nat → Int32) (n m i : Nat) : Int := (WT sg (LPq sg n m) (LH sg n (LPq sg n m)) i : Nat)
def Wn (sg : Nat → Int32) (n m k : Nat) : Prop := (∀ i : Nat, i < k → WF sg (LPq sg n m) (LH sg n (LPq sg n m)) i < LH sg n (LPq sg n m)) ∧ WF sg (LPq sg n m) (LH sg n (LPq sg n m)) k = LH sg n (LPq sg n m)
theorem Wn_u {sg : Nat → Int32} {n m k l : Nat} (h : Wn sg n m k) (g : Wn sg n m l) : k = l := by
  rcases Nat.lt_trichotomy k l with q | q | q
  · have := g.1 k q
    rw [h.2] at this; omega
  · exact q
  · have := h.1 l q
    rw [g.2] at this; omega
def isEnd (sg : Nat → Int32) (n m : Nat) : Prop := Wdq sg (wf sg n m 0) (wt sg n m 0) [46, 101, 110, 100]
def isCel (sg : Nat → Int32) (n m : Nat) : Prop := Wdq sg (wf sg n m 0) (wt sg n m 0) [99, 101, 108, 108]
def cA (sg : Nat → Int32) (n m : Nat) : Int := dv sg (wf sg n m 2).toNat (wt sg n m 2 - wf sg n m 2).toNat
def cD (sg : Nat → Int32) (n m : Nat) : Int := dv sg (wf sg n m 3).toNat (wt sg n m 3 - wf sg n m 3).toNat
def cT (sg : Nat → Int32) (n m : Nat) : Nat := bvl sg (wf sg n m 4).toNat (wt sg n m 4 - wf sg n m 4).toNat
def cL (sg : Nat → Int32) (n m : Nat) : Int := wt sg n m 4 - wf sg n m 4
def celOk (sg : Nat → Int32) (n m : Nat) : Prop := Wn sg n m 5 ∧ isCel sg n m ∧ Nm sg (wf sg n m 1) (wt sg n m 1) ∧ (wt sg n m 2 - wf sg n m 2 ≤ 3 ∧ dOk sg (wf sg n m 2).toNat (wt sg n m 2 - wf sg n m 2).toNat) ∧ ((wt sg n m 3 - wf sg n m 3 ≤ 2 ∧ dOk sg (wf sg n m 3).toNat (wt sg n m 3 - wf sg n m 3).toNat) ∧ 1 ≤ cD sg n m) ∧ ((cL sg n m = 2 ∨ cL sg n m = 4 ∨ cL sg n m = 8) ∧ bOk sg (wf sg n m 4).toNat (cL sg n m).toNat)
def sNm (sg : Nat → Int32) (n m l : Nat) : Prop := wt sg n m 1 - wf sg n m 1 = wt sg n l 1 - wf sg n l 1 ∧ ∀ k : Nat, (k : Int) < wt sg n m 1 - wf sg n m 1 → sg ((wf sg n m 1).toNat + k) = sg ((wf sg n l 1).toNat + k)
abbrev LSq : Type := Int × Int × Int × Nat × (Nat → Nat)
noncomputable def lstep (sg : Nat → Int32) (n m : Nat) (s : LSq) : LSq :=
  cif (Bl sg n m) s (cif (s.2.2.1 = 1) (1, (m : Int), s.2.2) (cif (isEnd sg n m) (cif (Wn sg n m 1 ∧ 0 < s.2.2.2.1) (0, -1, 1, s.2.2.2) (1, (m : Int), s.2.2)) (cif (celOk sg n m ∧ s.2.2.2.1 < 12) (cif (∃ i : Nat, i < s.2.2.2.1 ∧ sNm sg n (s.2.2.2.2 i) m) (2, (m : Int), s.2.2) (0, -1, 0, s.2.2.2.1 + 1, fun i => if i = s.2.2.2.1 then m else s.2.2.2.2 i)) (1, (m : Int), s.2.2))))
noncomputable def LR (sg : Nat → Int32) (n : Nat) : Nat → LSq
  | 0 => (0, -1, 0, 0, fun _ => 0)
  | m + 1 => cif ((LR sg n m).1 = 0) (lstep sg n m (LR sg n m)) (LR sg n m)
theorem LR_s {sg : Nat → Int32} {n m : Nat} (h : (LR sg n m).1 = 0) : LR sg n (m + 1) = lstep sg n m (LR sg n m) := cif_t h
theorem LR_b {sg : Nat → Int32} {n m : Nat} (h : Bl sg n m) : LR sg n (m + 1) = LR sg n m := by
  by_cases e : (LR sg n m).1 = 0
  · rw [LR_s e]; exact cif_t h
  · exact cif_f e
theorem LR_f {sg : Nat → Int32} {n : Nat} : ∀ {m k : Nat}, ¬ (LR sg n m).1 = 0 → LR sg n (m + k) = LR sg n m
  | m, 0, h => rfl
  | m, k + 1, h => by
    have q := LR_f (m := m) (k := k) h
    show cif ((LR sg n (m + k)).1 = 0) _ (LR sg n (m + k)) = _
    rw [cif_f (by rw [q]; exact h), q]
theorem LR_bs {sg : Nat → Int32} {n : Nat} {a : Nat} : ∀ {k : Nat}, (∀ j : Nat, a ≤ j → j < a + k → Bl sg n j) → LR sg n (a + k) = LR sg n a
  | 0, _ => rfl
  | k + 1, h => by
    rw [show a + (k + 1) = (a + k) + 1 from rfl, LR_b (h (a + k) (by omega) (by omega))]
    exact LR_bs (fun j h1 h2 => h j h1 (by omega))
theorem LP_m {sg : Nat → Int32} {n : Nat} : ∀ {i k : Nat}, LPq sg n i + k ≤ LPq sg n (i + k)
  | i, 0 => Nat.le_refl _
  | i, k + 1 => by
    have q := LP_m (sg := sg) (n := n) (i := i) (k := k)
    have z : LPq sg n (i + k) ≤ LE_ sg n (LPq sg n (i + k)) := fb_ge
    show LPq sg n i + (k + 1) ≤ LE_ sg n (LPq sg n (i + k)) + 1
    omega
def LAns (sg : Nat → Int32) (n : Nat) (kind line : Int) (c : Nat) (ln : Nat → Nat) : Prop := ∃ M : Nat, n < LPq sg n M ∧ (∀ j : Nat, j < M → LPq sg n j ≤ n) ∧
  ((¬ (LR sg n M).1 = 0 ∧ kind = (LR sg n M).1 ∧ line = (LR sg n M).2.1) ∨ ((LR sg n M).1 = 0 ∧ (LR sg n M).2.2.1 = 1 ∧ kind = 0 ∧ c = (LR sg n M).2.2.2.1 ∧ ln = (LR sg n M).2.2.2.2) ∨ ((LR sg n M).1 = 0 ∧ ¬ (LR sg n M).2.2.1 = 1 ∧ kind = 1 ∧ line = (M : Int)))
theorem LAns_M {sg : Nat → Int32} {n M N : Nat} (h1 : n < LPq sg n M) (h2 : ∀ j : Nat, j < M → LPq sg n j ≤ n) (g1 : n < LPq sg n N) (g2 : ∀ j : Nat, j < N → LPq sg n j ≤ n) : M = N := by
  rcases Nat.lt_trichotomy M N with q | q | q
  · have := g2 M q; omega
  · exact q
  · have := h2 N q; omega
theorem LAns_u {sg : Nat → Int32} {n : Nat} {k l k2 l2 : Int} {c c2 : Nat} {ln ln2 : Nat → Nat} (h : LAns sg n k l c ln) (g : LAns sg n k2 l2 c2 ln2) : k = k2 ∧ (¬ k = 0 → l = l2) ∧ (k = 0 → c = c2 ∧ ln = ln2) := by
  obtain ⟨M, h1, h2, h⟩ := h
  obtain ⟨N, g1, g2, g⟩ := g
  have e := LAns_M h1 h2 g1 g2
  subst e
  rcases h with ⟨a1, a2, a3⟩ | ⟨a1, a2, a3, a4, a5⟩ | ⟨a1, a2, a3, a4⟩
  · rcases g with ⟨b1, b2, b3⟩ | ⟨b1, b2, b3, b4, b5⟩ | ⟨b1, b2, b3, b4⟩
    · exact ⟨by rw [a2, b2], fun _ => by rw [a3, b3], fun z => absurd (a2 ▸ z) a1⟩
    · exact absurd b1 a1
    · exact absurd b1 a1
  · rcases g with ⟨b1, b2, b3⟩ | ⟨b1, b2, b3, b4, b5⟩ | ⟨b1, b2, b3, b4⟩
    · exact absurd a1 b1
    · exact ⟨by rw [a3, b3], fun z => absurd a3 z, fun _ => ⟨by rw [a4, b4], by rw [a5, b5]⟩⟩
    · exact absurd a2 b2
  · rcases g with ⟨b1, b2, b3⟩ | ⟨b1, b2, b3, b4, b5⟩ | ⟨b1, b2, b3, b4⟩
    · exact absurd a1 b1
    · exact absurd b2 a2
    · exact ⟨by rw [a3, b3], fun _ => by rw [a4, b4], fun z => by rw [a3] at z; cases z⟩
theorem LM_ex {sg : Nat → Int32} {n : Nat} : ∃ M : Nat, n < LPq sg n M ∧ ∀ j : Nat, j < M → LPq sg n j ≤ n := by
  have h : n < LPq sg n (0 + (n + 1)) := by
    have := LP_m (sg := sg) (n := n) (i := 0) (k := n + 1)
    omega
  have keyq : ∀ N : Nat, n < LPq sg n N → ∃ M : Nat, n < LPq sg n M ∧ ∀ j : Nat, j < M → LPq sg n j ≤ n := by
    intro N
    induction N with
    | zero => exact fun q => ⟨0, q, fun j hj => absurd hj (by omega)⟩
    | succ N ih =>
      intro q
      by_cases e : n < LPq sg n N
      · exact ih e
      · refine ⟨N + 1, q, fun j hj => ?_⟩
        have := LP_m (sg := sg) (n := n) (i := j) (k := N - j)
        rw [show j + (N - j) = N from by omega] at this
        omega
  exact keyq _ h
theorem LAns_f {sg : Nat → Int32} {n a : Nat} {c : Nat} {ln : Nat → Nat} (ha : LPq sg n a ≤ n) (h : ¬ (LR sg n (a + 1)).1 = 0) : LAns sg n (LR sg n (a + 1)).1 (LR sg n (a + 1)).2.1 c ln := by
  obtain ⟨M, h1, h2⟩ := LM_ex (sg := sg) (n := n)
  have l : a < M := by
    rcases Nat.lt_or_ge a M with q | q
    · exact q
    · have := LP_m (sg := sg) (n := n) (i := M) (k := a - M)
      rw [show M + (a - M) = a from by omega] at this
      omega
  have e : LR sg n M = LR sg n (a + 1) := by
    have := LR_f (k := M - (a + 1)) h
    rw [show a + 1 + (M - (a + 1)) = M from by omega] at this
    exact this
  exact ⟨M, h1, h2, Or.inl (by rw [e]; exact ⟨h, rfl, rfl⟩)⟩
theorem LAns_e {sg : Nat → Int32} {n M : Nat} {c : Nat} {ln : Nat → Nat} (h1 : n < LPq sg n M) (h2 : ∀ j : Nat, j < M → LPq sg n j ≤ n) (h : (LR sg n M).1 = 0) (he : (LR sg n M).2.2.1 = 1) (ec : c = (LR sg n M).2.2.2.1) (el : ln = (LR sg n M).2.2.2.2) : LAns sg n 0 (-1) c ln := ⟨M, h1, h2, Or.inr (Or.inl ⟨h, he, rfl, ec, el⟩)⟩
theorem LAns_n {sg : Nat → Int32} {n M : Nat} {c : Nat} {ln : Nat → Nat} (h1 : n < LPq sg n M) (h2 : ∀ j : Nat, j < M → LPq sg n j ≤ n) (h : (LR sg n M).1 = 0) (he : ¬ (LR sg n M).2.2.1 = 1) : LAns sg n 1 (M : Int) c ln := ⟨M, h1, h2, Or.inr (Or.inr ⟨h, he, rfl, rfl⟩)⟩
theorem LP_lt {sg : Nat → Int32} {n M j : Nat} (h : LPq sg n M ≤ n) (hj : j ≤ M) : LPq sg n j ≤ n := by
  have := LP_m (sg := sg) (n := n) (i := j) (k := M - j)
  rw [show j + (M - j) = M from by omega] at this
  omega
