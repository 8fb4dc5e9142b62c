def fsx (P : Nat → Bool) : Nat → Nat → Nat
  | 0, q => q
  | f + 1, q => bif P q then q else fsx P f (q + 1)
def fb (P : Nat → Bool) (h q : Nat) : Nat := fsx P (h - q) q
theorem fb_o {P : Nat → Bool} {h q : Nat} (hq : h ≤ q) : fb P h q = q := by
  unfold fb; rw [Nat.sub_eq_zero_of_le hq]; rfl
theorem fb_t {P : Nat → Bool} {h q : Nat} (hp : P q = true) : fb P h q = q := by
  unfold fb
  cases h - q with
  | zero => rfl
  | succ f => show (bif P q then q else _) = q; rw [hp]; rfl
theorem fb_f {P : Nat → Bool} {h q : Nat} (hq : q < h) (hp : P q = false) : fb P h q = fb P h (q + 1) := by
  unfold fb
  obtain ⟨f, hf⟩ : ∃ f, h - q = f + 1 := ⟨h - q - 1, by omega⟩
  rw [hf, show h - (q + 1) = f from by omega]
  show (bif P q then q else _) = _
  rw [hp]; rfl
theorem fsx_ge {P : Nat → Bool} : ∀ {f q : Nat}, q ≤ fsx P f q ∧ fsx P f q ≤ q + f
  | 0, q => ⟨Nat.le_refl _, Nat.le_refl _⟩
  | f + 1, q => by
    show q ≤ (bif P q then q else fsx P f (q + 1)) ∧ (bif P q then q else fsx P f (q + 1)) ≤ _
    cases P q with
    | true => exact ⟨Nat.le_refl _, Nat.le_add_right _ _⟩
    | false =>
      have h := fsx_ge (P := P) (f := f) (q := q + 1)
      exact ⟨by show q ≤ fsx P f (q + 1); omega, by show fsx P f (q + 1) ≤ _; omega⟩
theorem fb_ge {P : Nat → Bool} {h q : Nat} : q ≤ fb P h q := fsx_ge.1
theorem fb_le {P : Nat → Bool} {h q : Nat} (hq : q ≤ h) : fb P h q ≤ h := by
  have := (fsx_ge (P := P) (f := h - q) (q := q)).2
  unfold fb; omega
theorem fsx_nf {P : Nat → Bool} : ∀ {f q i : Nat}, q ≤ i → i < fsx P f q → P i = false
  | 0, q, i, h1, h2 => by exact absurd h2 (by show ¬ i < q; omega)
  | f + 1, q, i, h1, h2 => by
    have h2 : i < (bif P q then q else fsx P f (q + 1)) := h2
    cases hp : P q with
    | true => rw [hp] at h2; exact absurd h2 (by show ¬ i < q; omega)
    | false =>
      rw [hp] at h2
      by_cases e : i = q
      · rw [e]; exact hp
      · exact fsx_nf (f := f) (q := q + 1) (by omega) h2
theorem fsx_at {P : Nat → Bool} : ∀ {f q : Nat}, fsx P f q < q + f → P (fsx P f q) = true
  | 0, q, h => by exact absurd h (by show ¬ q < q + 0; omega)
  | f + 1, q, h => by
    have h : (bif P q then q else fsx P f (q + 1)) < q + (f + 1) := h
    show P (bif P q then q else fsx P f (q + 1)) = true
    cases hp : P q with
    | true => exact hp
    | false => rw [hp] at h; exact fsx_at (f := f) (q := q + 1) (by show fsx P f (q + 1) < _; have h : fsx P f (q + 1) < q + (f + 1) := h; omega)
theorem fb_nf {P : Nat → Bool} {h q i : Nat} (h1 : q ≤ i) (h2 : i < fb P h q) : P i = false := fsx_nf h1 h2
theorem fb_at {P : Nat → Bool} {h q : Nat} (h1 : fb P h q < h) (h2 : q ≤ h) : P (fb P h q) = true := fsx_at (by show fb P h q < _; omega)
def chh (c : Int) (sg : Nat → Int32) (i : Nat) : Bool := decide ((sg i).toInt = c)
def nch (c : Int) (sg : Nat → Int32) (i : Nat) : Bool := !decide ((sg i).toInt = c)
theorem ch_t {c : Int} {sg : Nat → Int32} {i : Nat} (h : (sg i).toInt = c) : chh c sg i = true := decide_eq_true h
theorem ch_f {c : Int} {sg : Nat → Int32} {i : Nat} (h : ¬ (sg i).toInt = c) : chh c sg i = false := decide_eq_false h
theorem ch_n {c : Int} {sg : Nat → Int32} {i : Nat} (h : chh c sg i = false) : ¬ (sg i).toInt = c := of_decide_eq_false h
theorem ch_y {c : Int} {sg : Nat → Int32} {i : Nat} (h : chh c sg i = true) : (sg i).toInt = c := of_decide_eq_true h
theorem nch_f {c : Int} {sg : Nat → Int32} {i : Nat} (h : (sg i).toInt = c) : nch c sg i = false := by unfold nch; rw [decide_eq_true h]; rfl
theorem nch_t {c : Int} {sg : Nat → Int32} {i : Nat} (h : ¬ (sg i).toInt = c) : nch c sg i = true := by unfold nch; rw [decide_eq_false h]; rfl
def Fl (P : Nat → Bool) (n p q : Int) : Prop := fb P n.toNat p.toNat = fb P n.toNat q.toNat
def Fob (P : Nat → Bool) (n p e : Int) : Prop := fb P n.toNat p.toNat = e.toNat
theorem Fl_0 {P : Nat → Bool} {n p : Int} : Fl P n p p := rfl
theorem Fl_s {P : Nat → Bool} {n p : Int} {v w : Int32} (h : Fl P n p v.toInt) (h0 : 0 ≤ v.toInt) (hn : v.toInt < n) (hc : P v.toNatClampNeg = false) (e : w.toInt = v.toInt + 1) : Fl P n p w.toInt := by
  refine Eq.trans h (Eq.trans (fb_f (by omega) hc) ?_)
  rw [e]; congr 1; omega
theorem Fl_e {P : Nat → Bool} {n p : Int} {v : Int32} (h : Fl P n p v.toInt) (hn : n ≤ v.toInt ∨ P v.toNatClampNeg = true) : Fob P n p v.toInt := by
  refine Eq.trans h ?_
  rcases hn with hn | hn
  · exact fb_o (by omega)
  · exact fb_t hn
def LE_ (sg : Nat → Int32) (n p : Nat) : Nat := fb (chh 10 sg) n p
def LH (sg : Nat → Int32) (n p : Nat) : Nat := fb (chh 35 sg) (LE_ sg n p) p
def WF (sg : Nat → Int32) (p h : Nat) : Nat → Nat
  | 0 => fb (nch 32 sg) h p
  | i + 1 => fb (nch 32 sg) h (fb (chh 32 sg) h (WF sg p h i))
def WT (sg : Nat → Int32) (p h : Nat) (i : Nat) : Nat := fb (chh 32 sg) h (WF sg p h i)
theorem WF_b {sg : Nat → Int32} {p h : Nat} (hp : p ≤ h) : ∀ i, p ≤ WF sg p h i ∧ WF sg p h i ≤ h
  | 0 => ⟨fb_ge, fb_le hp⟩
  | i + 1 => by
    have h1 := WF_b (sg := sg) hp i
    have h2 : WF sg p h i ≤ fb (chh 32 sg) h (WF sg p h i) := fb_ge
    have h3 : fb (chh 32 sg) h (WF sg p h i) ≤ h := fb_le h1.2
    have h4 : fb (chh 32 sg) h (WF sg p h i) ≤ fb (nch 32 sg) h (fb (chh 32 sg) h (WF sg p h i)) := fb_ge
    exact ⟨by show p ≤ fb _ _ _; omega, fb_le h3⟩
def WE (sg : Nat → Int32) (p h : Nat) (k : Int) (fr to : Nat → Int32) : Prop := ∀ i : Nat, (i : Int) < k → (fr i).toInt = (WF sg p h i : Int) ∧ (to i).toInt = (WT sg p h i : Int) ∧ WF sg p h i < h
def Wk (sg : Nat → Int32) (p h k q : Int) (fr to : Nat → Int32) : Prop := WE sg p.toNat h.toNat k fr to ∧ fb (nch 32 sg) h.toNat q.toNat = WF sg p.toNat h.toNat k.toNat
def Wiq (sg : Nat → Int32) (p h k q : Int) (fr to : Nat → Int32) : Prop := WE sg p.toNat h.toNat k fr to ∧ (fr k.toNat).toInt = (WF sg p.toNat h.toNat k.toNat : Int) ∧ WF sg p.toNat h.toNat k.toNat < h.toNat ∧ fb (chh 32 sg) h.toNat q.toNat = WT sg p.toNat h.toNat k.toNat
theorem Wk_0 {sg : Nat → Int32} {p h k : Int} {fr to : Nat → Int32} (hk : k = 0) : Wk sg p h k p fr to := ⟨fun i hi => absurd hi (by omega), by subst hk; rfl⟩
theorem Wk_s {sg : Nat → Int32} {p h k : Int} {v w : Int32} {fr to : Nat → Int32} (H : Wk sg p h k v.toInt fr to) (h0 : 0 ≤ v.toInt) (hh : v.toInt < h) (hc : (sg v.toNatClampNeg).toInt = 32) (e : w.toInt = v.toInt + 1) : Wk sg p h k w.toInt fr to := by
  refine ⟨H.1, Eq.trans ?_ H.2⟩
  refine Eq.trans ?_ (fb_f (P := nch 32 sg) (h := h.toNat) (q := v.toInt.toNat) (by omega) (nch_f hc)).symm
  rw [e]; congr 1; omega
theorem WE_u {sg : Nat → Int32} {p h : Nat} {k : Int32} {fr to : Nat → Int32} {v : Int32} (H : WE sg p h k.toInt fr to) : WE sg p h k.toInt (upd fr k.toNatClampNeg v) to := by
  intro i hi
  have := H i hi
  have e : ¬ i = k.toNatClampNeg := by have := tn_n k; omega
  rw [up_o e]
  exact this
theorem WE_v {sg : Nat → Int32} {p h : Nat} {k : Int32} {fr to : Nat → Int32} {v : Int32} (H : WE sg p h k.toInt fr to) : WE sg p h k.toInt fr (upd to k.toNatClampNeg v) := by
  intro i hi
  have := H i hi
  have e : ¬ i = k.toNatClampNeg := by have := tn_n k; omega
  rw [up_o e]
  exact this
theorem Wi_0 {sg : Nat → Int32} {p h : Int} {k v : Int32} {fr to : Nat → Int32} (H : Wk sg p h k.toInt v.toInt fr to) (h0 : 0 ≤ v.toInt) (hh : v.toInt < h) (hc : ¬ (sg v.toNatClampNeg).toInt = 32) : Wiq sg p h k.toInt v.toInt (upd fr k.toNatClampNeg v) to := by
  have e : WF sg p.toNat h.toNat k.toInt.toNat = v.toInt.toNat := H.2.symm.trans (fb_t (nch_t hc))
  refine ⟨WE_u H.1, ?_, ?_, ?_⟩
  · show (upd fr k.toNatClampNeg v k.toNatClampNeg).toInt = _
    rw [up_s, e]; omega
  · rw [e]; omega
  · unfold WT; rw [e]
theorem Wi_s {sg : Nat → Int32} {p h k : Int} {v w : Int32} {fr to : Nat → Int32} (H : Wiq sg p h k v.toInt fr to) (h0 : 0 ≤ v.toInt) (hh : v.toInt < h) (hc : ¬ (sg v.toNatClampNeg).toInt = 32) (e : w.toInt = v.toInt + 1) : Wiq sg p h k w.toInt fr to := by
  refine ⟨H.1, H.2.1, H.2.2.1, Eq.trans ?_ H.2.2.2⟩
  refine Eq.trans ?_ (fb_f (P := chh 32 sg) (h := h.toNat) (q := v.toInt.toNat) (by omega) (ch_f hc)).symm
  rw [e]; congr 1; omega
theorem Wi_e {sg : Nat → Int32} {p h : Int} {k k2 v : Int32} {fr to : Nat → Int32} (H : Wiq sg p h k.toInt v.toInt fr to) (h0 : 0 ≤ v.toInt) (hh : h ≤ v.toInt ∨ (sg v.toNatClampNeg).toInt = 32) (hk0 : 0 ≤ k.toInt) (e : k2.toInt = k.toInt + 1) : Wk sg p h k2.toInt v.toInt fr (upd to k.toNatClampNeg v) := by
  have q : WT sg p.toNat h.toNat k.toInt.toNat = v.toInt.toNat := by
    refine H.2.2.2.symm.trans ?_
    rcases hh with hh | hh
    · exact fb_o (by omega)
    · exact fb_t (ch_t hh)
  refine ⟨fun i hi => ?_, ?_⟩
  · by_cases ei : (i : Int) = k.toInt
    · have e2 : i = k.toNatClampNeg := by have := tn_n k; omega
      subst e2
      rw [up_s]
      exact ⟨H.2.1, by rw [show WT sg p.toNat h.toNat k.toNatClampNeg = v.toInt.toNat from q]; omega, H.2.2.1⟩
    · exact WE_v H.1 i (by omega)
  · rw [show k2.toInt.toNat = k.toInt.toNat + 1 from by omega]
    show _ = fb (nch 32 sg) h.toNat (WT sg p.toNat h.toNat k.toInt.toNat)
    rw [q]
def TK (sg : Nat → Int32) (n p k : Int) (fr to : Nat → Int32) : Prop := WE sg p.toNat (LH sg n.toNat p.toNat) k fr to ∧ WF sg p.toNat (LH sg n.toNat p.toNat) k.toNat = LH sg n.toNat p.toNat
theorem TK_e {sg : Nat → Int32} {n p e h k q : Int} {fr to : Nat → Int32} (H : Wk sg p h k q fr to) (hq : h ≤ q) (hq2 : q ≤ h) (h1 : Fob (chh 10 sg) n p e) (h2 : Fob (chh 35 sg) e p h) : TK sg n p k fr to := by
  have eh : LH sg n.toNat p.toNat = h.toNat := by
    unfold LH LE_
    rw [show fb (chh 10 sg) n.toNat p.toNat = e.toNat from h1]; exact h2
  have w := H.2
  rw [fb_o (by omega)] at w
  unfold TK; rw [eh]
  exact ⟨H.1, by rw [← w]; omega⟩
theorem TK_f {sg : Nat → Int32} {n p k : Int} {fr to : Nat → Int32} (h : TK sg n p k fr to) {i : Nat} (hi : (i : Int) < k) : WF sg p.toNat (LH sg n.toNat p.toNat) i < LH sg n.toNat p.toNat := (h.1 i hi).2.2
theorem Fl_r {P : Nat → Bool} {n p q : Int} (h : q = p) : Fl P n p q := by subst h; rfl
theorem Wk_r {sg : Nat → Int32} {p h k q : Int} {fr to : Nat → Int32} (hk : k = 0) (hq : q = p) : Wk sg p h k q fr to := by subst hq; exact Wk_0 hk
def SLq (sg : Nat → Int32) (n p v1 v2 q w : Int) (fr to : Nat → Int32) : Prop := ∃ c : Nat, w = min (c : Int) 10 ∧ (∀ i : Nat, i < c → WF sg p.toNat (LH sg n.toNat p.toNat) i < LH sg n.toNat p.toNat ∧ (i < 9 → (fr i).toInt = (WF sg p.toNat (LH sg n.toNat p.toNat) i : Int))) ∧ (∀ i : Nat, i + 1 < c → i < 9 → (to i).toInt = (WT sg p.toNat (LH sg n.toNat p.toNat) i : Int)) ∧
  ((v1 = 0 ∧ v2 = 0 ∧ WF sg p.toNat (LH sg n.toNat p.toNat) c = LH sg n.toNat p.toNat ∧ ∀ i : Nat, i + 1 = c → i < 9 → (to i).toInt = (WT sg p.toNat (LH sg n.toNat p.toNat) i : Int)) ∨
   (¬ v1 = 0 ∧ v2 = 0 ∧ Fl (chh 35 sg) (LE_ sg n.toNat p.toNat) p q ∧ fb (nch 32 sg) (LH sg n.toNat p.toNat) q.toNat = WF sg p.toNat (LH sg n.toNat p.toNat) c ∧ ∀ i : Nat, i + 1 = c → i < 9 → (to i).toInt = (WT sg p.toNat (LH sg n.toNat p.toNat) i : Int)) ∨
   (¬ v1 = 0 ∧ ¬ v2 = 0 ∧ Fl (chh 35 sg) (LE_ sg n.toNat p.toNat) p q ∧ 1 ≤ c ∧ fb (chh 32 sg) (LH sg n.toNat p.toNat) q.toNat = WT sg p.toNat (LH sg n.toNat p.toNat) (c - 1) ∧ ∀ i : Nat, i + 1 = c → i < 9 → (to i).toInt = q))
def TC (sg : Nat → Int32) (n p w : Int) (fr to : Nat → Int32) : Prop := ∃ c : Nat, w = min (c : Int) 10 ∧ (∀ i : Nat, i < c → WF sg p.toNat (LH sg n.toNat p.toNat) i < LH sg n.toNat p.toNat ∧ (i < 9 → (fr i).toInt = (WF sg p.toNat (LH sg n.toNat p.toNat) i : Int) ∧ (to i).toInt = (WT sg p.toNat (LH sg n.toNat p.toNat) i : Int))) ∧ WF sg p.toNat (LH sg n.toNat p.toNat) c = LH sg n.toNat p.toNat
theorem SL_0 {sg : Nat → Int32} {n p v1 v2 q w : Int} {fr to : Nat → Int32} (h1 : ¬ v1 = 0) (h2 : v2 = 0) (hq : q = p) (hw : w = 0) : SLq sg n p v1 v2 q w fr to := by
  subst hq
  exact ⟨0, by omega, fun i hi => absurd hi (by omega), fun i hi => absurd hi (by omega), Or.inr (Or.inl ⟨h1, h2, rfl, rfl, fun i hi => absurd hi (by omega)⟩)⟩
theorem SL_e {sg : Nat → Int32} {n p : Int} {q : Int32} (he : Fl (chh 10 sg) n p q.toInt) (h0 : 0 ≤ q.toInt) (hn : q.toInt < n) (hc : ¬ (sg q.toNatClampNeg).toInt = 10) : q.toInt.toNat < LE_ sg n.toNat p.toNat := by
  have e : LE_ sg n.toNat p.toNat = fb (chh 10 sg) n.toNat (q.toInt.toNat + 1) := Eq.trans he (fb_f (by omega) (ch_f hc))
  rw [e]
  exact fb_ge
theorem SL_h {sg : Nat → Int32} {n p : Int} {q : Int32} (hl : Fl (chh 35 sg) (LE_ sg n.toNat p.toNat) p q.toInt) (hq : q.toInt.toNat < LE_ sg n.toNat p.toNat) (hc : ¬ (sg q.toNatClampNeg).toInt = 35) : q.toInt.toNat < LH sg n.toNat p.toNat := by
  have e : LH sg n.toNat p.toNat = fb (chh 35 sg) (LE_ sg n.toNat p.toNat) (q.toInt.toNat + 1) := Eq.trans hl (fb_f (by omega) (ch_f hc))
  rw [e]
  exact fb_ge
theorem SL_a {sg : Nat → Int32} {n p v1 v2 w1 w2 w : Int} {q q2 : Int32} {fr to : Nat → Int32} (H : SLq sg n p v1 v2 q.toInt w fr to) (h1 : v1 = 0) (e1 : w1 = 0) (e2 : w2 = 0) : SLq sg n p w1 w2 q2.toInt w fr to := by
  obtain ⟨c, hw, ha, hb, h | h | h⟩ := H
  · exact ⟨c, hw, ha, hb, Or.inl ⟨e1, e2, h.2.2⟩⟩
  · exact absurd h1 h.1
  · exact absurd h1 h.1
theorem SL_hq {sg : Nat → Int32} {n p : Int} {q : Int32} (hl : Fl (chh 35 sg) (LE_ sg n.toNat p.toNat) p q.toInt) (hc : (sg q.toNatClampNeg).toInt = 35 ∨ LE_ sg n.toNat p.toNat ≤ q.toInt.toNat) : LH sg n.toNat p.toNat = q.toInt.toNat := by
  refine Eq.trans hl ?_
  rcases hc with hc | hc
  · exact fb_t (ch_t hc)
  · exact fb_o (by omega)
theorem SL_x {sg : Nat → Int32} {n p v1 v2 w : Int} {q : Int32} {fr to : Nat → Int32} (H : SLq sg n p v1 v2 q.toInt w fr to) (h0 : 0 ≤ q.toInt) (hc : v1 = 0 ∨ (sg q.toNatClampNeg).toInt = 35 ∨ LE_ sg n.toNat p.toNat ≤ q.toInt.toNat) : ∃ c : Nat, w = min (c : Int) 10 ∧ (∀ i : Nat, i < c → WF sg p.toNat (LH sg n.toNat p.toNat) i < LH sg n.toNat p.toNat ∧ (i < 9 → (fr i).toInt = (WF sg p.toNat (LH sg n.toNat p.toNat) i : Int))) ∧ (∀ i : Nat, i < c → i < 9 → (to i).toInt = (WT sg p.toNat (LH sg n.toNat p.toNat) i : Int)) ∧ WF sg p.toNat (LH sg n.toNat p.toNat) c = LH sg n.toNat p.toNat := by
  obtain ⟨c, hw, ha, hb, h | h | h⟩ := H
  · refine ⟨c, hw, ha, fun i h1 h2 => ?_, h.2.2.1⟩
    by_cases e : i + 1 = c
    · exact h.2.2.2 i e h2
    · exact hb i (by omega) h2
  · have eh := SL_hq h.2.2.1 (hc.resolve_left h.1)
    refine ⟨c, hw, ha, fun i h1 h2 => ?_, ?_⟩
    · by_cases e : i + 1 = c
      · exact h.2.2.2.2 i e h2
      · exact hb i (by omega) h2
    · rw [← h.2.2.2.1]; rw [eh]; exact fb_o (Nat.le_refl _)
  · have eh := SL_hq h.2.2.1 (hc.resolve_left h.1)
    have et : WT sg p.toNat (LH sg n.toNat p.toNat) (c - 1) = q.toInt.toNat := by rw [← h.2.2.2.2.1]; rw [eh]; exact fb_o (Nat.le_refl _)
    refine ⟨c, hw, ha, fun i h1 h2 => ?_, ?_⟩
    · by_cases e : i + 1 = c
      · rw [h.2.2.2.2.2 i e h2, show i = c - 1 from by omega, et]; omega
      · exact hb i (by omega) h2
    · obtain ⟨d, hd⟩ : ∃ d, c = d + 1 := ⟨c - 1, by omega⟩
      subst hd
      show fb (nch 32 sg) _ (WT sg p.toNat (LH sg n.toNat p.toNat) d) = _
      rw [show WT sg p.toNat (LH sg n.toNat p.toNat) d = q.toInt.toNat from et]
      rw [eh]; exact fb_o (Nat.le_refl _)
theorem SL_b {sg : Nat → Int32} {n p v1 v2 w1 w2 w : Int} {q q2 : Int32} {fr to : Nat → Int32} (H : SLq sg n p v1 v2 q.toInt w fr to) (h0 : 0 ≤ q.toInt) (hc : (sg q.toNatClampNeg).toInt = 35) (e1 : w1 = 0) (e2 : w2 = 0) : SLq sg n p w1 w2 q2.toInt w fr to := by
  obtain ⟨c, hw, ha, hb, hx⟩ := SL_x H h0 (Or.inr (Or.inl hc))
  exact ⟨c, hw, ha, fun i h1 h2 => hb i (by omega) h2, Or.inl ⟨e1, e2, hx, fun i h1 h2 => hb i (by omega) h2⟩⟩
theorem TC_e {sg : Nat → Int32} {n p v1 v2 w : Int} {q : Int32} {fr to : Nat → Int32} (H : SLq sg n p v1 v2 q.toInt w fr to) (he : Fl (chh 10 sg) n p q.toInt) (h0 : 0 ≤ q.toInt) (hc : n ≤ q.toInt ∨ (sg q.toNatClampNeg).toInt = 10) : TC sg n p w fr to := by
  have e : LE_ sg n.toNat p.toNat = q.toInt.toNat := by
    refine Eq.trans he ?_
    rcases hc with hc | hc
    · exact fb_o (by omega)
    · exact fb_t (ch_t hc)
  obtain ⟨c, hw, ha, hb, hx⟩ := SL_x H h0 (Or.inr (Or.inr (by omega)))
  exact ⟨c, hw, fun i hi => ⟨(ha i hi).1, fun h9 => ⟨(ha i hi).2 h9, hb i hi h9⟩⟩, hx⟩
theorem SL_c {sg : Nat → Int32} {n p v1 v2 w1 w2 w : Int} {q q2 : Int32} {fr to : Nat → Int32} (H : SLq sg n p v1 v2 q.toInt w fr to) (he : Fl (chh 10 sg) n p q.toInt) (h0 : 0 ≤ q.toInt) (hn : q.toInt < n) (h10 : ¬ (sg q.toNatClampNeg).toInt = 10) (hv : ¬ v1 = 0) (h35 : ¬ (sg q.toNatClampNeg).toInt = 35) (h32 : (sg q.toNatClampNeg).toInt = 32) (e1 : ¬ w1 = 0) (e2 : w2 = 0) (eq : q2.toInt = q.toInt + 1) : SLq sg n p w1 w2 q2.toInt w fr to := by
  have qe := SL_e he h0 hn h10
  obtain ⟨c, hw, ha, hb, h | h | h⟩ := H
  · exact absurd h.1 hv
  · have qh := SL_h h.2.2.1 qe h35
    refine ⟨c, hw, ha, hb, Or.inr (Or.inl ⟨e1, e2, Fl_s h.2.2.1 h0 (by omega) (ch_f h35) eq, ?_, h.2.2.2.2⟩)⟩
    rw [← h.2.2.2.1, fb_f (q := q.toInt.toNat) (by omega) (nch_f h32), eq]; congr 1; omega
  · have qh := SL_h h.2.2.1 qe h35
    have et : WT sg p.toNat (LH sg n.toNat p.toNat) (c - 1) = q.toInt.toNat := h.2.2.2.2.1.symm.trans (fb_t (ch_t h32))
    refine ⟨c, hw, ha, hb, Or.inr (Or.inl ⟨e1, e2, Fl_s h.2.2.1 h0 (by omega) (ch_f h35) eq, ?_, fun i h1 h2 => ?_⟩)⟩
    · obtain ⟨d, hd⟩ : ∃ d, c = d + 1 := ⟨c - 1, by omega⟩
      subst hd
      show _ = fb (nch 32 sg) _ (WT sg p.toNat (LH sg n.toNat p.toNat) d)
      rw [show WT sg p.toNat (LH sg n.toNat p.toNat) d = q.toInt.toNat from et, fb_f (q := q.toInt.toNat) (by omega) (nch_f h32), eq]; congr 1; omega
    · rw [h.2.2.2.2.2 i h1 h2, show i = c - 1 from by omega, et]; omega
theorem SL_f {sg : Nat → Int32} {n p v1 v2 w1 w2 w : Int} {q q2 x : Int32} {fr to : Nat → Int32} {j : Nat} (H : SLq sg n p v1 v2 q.toInt w fr to) (he : Fl (chh 10 sg) n p q.toInt) (h0 : 0 ≤ q.toInt) (hn : q.toInt < n) (h10 : ¬ (sg q.toNatClampNeg).toInt = 10) (hv : ¬ v1 = 0) (hv2 : ¬ v2 = 0) (h35 : ¬ (sg q.toNatClampNeg).toInt = 35) (h32 : ¬ (sg q.toNatClampNeg).toInt = 32) (e1 : ¬ w1 = 0) (e2 : ¬ w2 = 0) (eq : q2.toInt = q.toInt + 1) (ex : x.toInt = q.toInt + 1) (ej : (j : Int) = w - 1) : SLq sg n p w1 w2 q2.toInt w fr (upd to j x) := by
  have qe := SL_e he h0 hn h10
  obtain ⟨c, hw, ha, hb, h | h | h⟩ := H
  · exact absurd h.1 hv
  · exact absurd h.2.1 hv2
  · have qh := SL_h h.2.2.1 qe h35
    have h1c := h.2.2.2.1
    refine ⟨c, hw, ha, fun i h1 h2 => ?_, Or.inr (Or.inr ⟨e1, e2, Fl_s h.2.2.1 h0 (by omega) (ch_f h35) eq, h1c, ?_, fun i h1 h2 => ?_⟩)⟩
    · have e : ¬ i = j := by omega
      rw [up_o e]; exact hb i h1 h2
    · rw [← h.2.2.2.2.1, fb_f (q := q.toInt.toNat) (by omega) (ch_f h32), eq]; congr 1; omega
    · have e : i = j := by omega
      rw [e, up_s]; omega
theorem SL_d {sg : Nat → Int32} {n p v1 v2 w1 w2 w w' : Int} {q q2 x y : Int32} {fr to : Nat → Int32} {j k : Nat} (H : SLq sg n p v1 v2 q.toInt w fr to) (he : Fl (chh 10 sg) n p q.toInt) (h0 : 0 ≤ q.toInt) (hn : q.toInt < n) (h10 : ¬ (sg q.toNatClampNeg).toInt = 10) (hv : ¬ v1 = 0) (hv2 : v2 = 0) (h35 : ¬ (sg q.toNatClampNeg).toInt = 35) (h32 : ¬ (sg q.toNatClampNeg).toInt = 32) (e1 : ¬ w1 = 0) (e2 : ¬ w2 = 0) (eq : q2.toInt = q.toInt + 1) (ex : x.toInt = q.toInt + 1) (ey : y.toInt = q.toInt) (hw10 : w < 10) (ew : w' = w + 1) (ek : (k : Int) = w) (ej : (j : Int) = w) : SLq sg n p w1 w2 q2.toInt w' (upd fr k y) (upd to j x) := by
  have qe := SL_e he h0 hn h10
  obtain ⟨c, hw, ha, hb, h | h | h⟩ := H
  · exact absurd h.1 hv
  · have qh := SL_h h.2.2.1 qe h35
    have ef : WF sg p.toNat (LH sg n.toNat p.toNat) c = q.toInt.toNat := h.2.2.2.1.symm.trans (fb_t (nch_t h32))
    have kc : k = c := by omega
    have jc : j = c := by omega
    refine ⟨c + 1, by omega, fun i hi => ?_, fun i h1 h2 => ?_, Or.inr (Or.inr ⟨e1, e2, Fl_s h.2.2.1 h0 (by omega) (ch_f h35) eq, by omega, ?_, fun i h1 h2 => ?_⟩)⟩
    · by_cases e : i = c
      · subst e
        refine ⟨by rw [ef]; omega, fun _ => ?_⟩
        rw [kc, up_s, ef]; omega
      · have e' : ¬ i = k := by omega
        rw [up_o e']; exact ha i (by omega)
    · have e' : ¬ i = j := by omega
      rw [up_o e']
      by_cases e : i + 1 = c
      · exact h.2.2.2.2 i e h2
      · exact hb i (by omega) h2
    · show _ = fb (chh 32 sg) _ (WF sg p.toNat (LH sg n.toNat p.toNat) c)
      rw [ef, fb_f (q := q.toInt.toNat) (by omega) (ch_f h32), eq]; congr 1; omega
    · have e' : i = j := by omega
      rw [e', up_s]; omega
  · exact absurd hv2 h.2.1
theorem SL_g {sg : Nat → Int32} {n p v1 v2 w1 w2 w : Int} {q q2 x : Int32} {fr to : Nat → Int32} {j : Nat} (H : SLq sg n p v1 v2 q.toInt w fr to) (he : Fl (chh 10 sg) n p q.toInt) (h0 : 0 ≤ q.toInt) (hn : q.toInt < n) (h10 : ¬ (sg q.toNatClampNeg).toInt = 10) (hv : ¬ v1 = 0) (hv2 : v2 = 0) (h35 : ¬ (sg q.toNatClampNeg).toInt = 35) (h32 : ¬ (sg q.toNatClampNeg).toInt = 32) (e1 : ¬ w1 = 0) (e2 : ¬ w2 = 0) (eq : q2.toInt = q.toInt + 1) (hw10 : 10 ≤ w) (ej : (j : Int) = w - 1) : SLq sg n p w1 w2 q2.toInt w fr (upd to j x) := by
  have qe := SL_e he h0 hn h10
  obtain ⟨c, hw, ha, hb, h | h | h⟩ := H
  · exact absurd h.1 hv
  · have qh := SL_h h.2.2.1 qe h35
    have ef : WF sg p.toNat (LH sg n.toNat p.toNat) c = q.toInt.toNat := h.2.2.2.1.symm.trans (fb_t (nch_t h32))
    refine ⟨c + 1, by omega, fun i hi => ?_, fun i h1 h2 => ?_, Or.inr (Or.inr ⟨e1, e2, Fl_s h.2.2.1 h0 (by omega) (ch_f h35) eq, by omega, ?_, fun i h1 h2 => absurd h2 (by omega)⟩)⟩
    · by_cases e : i = c
      · subst e
        exact ⟨by rw [ef]; omega, fun z => absurd z (by omega)⟩
      · exact ha i (by omega)
    · have e' : ¬ i = j := by omega
      rw [up_o e']
      by_cases e : i + 1 = c
      · exact h.2.2.2.2 i e h2
      · exact hb i (by omega) h2
    · show _ = fb (chh 32 sg) _ (WF sg p.toNat (LH sg n.toNat p.toNat) c)
      rw [ef, fb_f (q := q.toInt.toNat) (by omega) (ch_f h32), eq]; congr 1; omega
  · exact absurd hv2 h.2.1
theorem TK_TC {sg : Nat → Int32} {n p k w : Int} {fr to fr2 to2 : Nat → Int32} (h : TK sg n p k fr to) (h2 : TC sg n p w fr2 to2) (hk : 0 ≤ k) : w = min k 10 ∧ ∀ i : Nat, (i : Int) < k → i < 9 → (fr2 i).toInt = (fr i).toInt ∧ (to2 i).toInt = (to i).toInt := by
  obtain ⟨c, hw, ha, hx⟩ := h2
  have e : k.toNat = c := by
    rcases Nat.lt_trichotomy k.toNat c with l | l | l
    · have := (ha _ l).1
      rw [h.2] at this; omega
    · exact l
    · have := (h.1 c (by omega)).2.2
      rw [hx] at this; omega
  refine ⟨by omega, fun i h1 h9 => ?_⟩
  have a := h.1 i h1
  have b := (ha i (by omega)).2 h9
  exact ⟨by rw [b.1, a.1], by rw [b.2, a.2.1]⟩
def LPq (sg : Nat → Int32) (n : Nat) : Nat → Nat
  | 0 => 0
  | i + 1 => LE_ sg n (LPq sg n i) + 1
def Bl (sg : Nat → Int32) (n i : Nat) : Prop := WF sg (LPq sg n i) (LH sg n (LPq sg n i)) 0 = LH sg n (LPq sg n i)
def Lqq (sg : Nat → Int32) (n k q : Int) : Prop := q = (LPq sg n.toNat k.toNat : Int)
theorem Lq_0 {sg : Nat → Int32} {n k q : Int} (hk : k = 0) (hq : q = 0) : Lqq sg n k q := by subst hk; subst hq; rfl
theorem Lq_s {sg : Nat → Int32} {n k k2 q e q2 : Int} (h : Lqq sg n k q) (he : Fob (chh 10 sg) n q e) (hk : 0 ≤ k) (h0 : 0 ≤ e) (ek : k2 = k + 1) (eq : q2 = e + 1) : Lqq sg n k2 q2 := by
  have e1 : LE_ sg n.toNat (LPq sg n.toNat k.toNat) = e.toNat := by
    have h : q = (LPq sg n.toNat k.toNat : Int) := h
    have e2 : q.toNat = LPq sg n.toNat k.toNat := by omega
    rw [← e2]; exact he
  show q2 = (LPq sg n.toNat k2.toNat : Int)
  rw [ek, show (k + 1).toNat = k.toNat + 1 from by omega]
  show q2 = ((LE_ sg n.toNat (LPq sg n.toNat k.toNat) + 1 : Nat) : Int)
  rw [e1]; omega
def Bls (sg : Nat → Int32) (n k k2 : Int) : Prop := ∀ j : Nat, k < (j : Int) → (j : Int) < k2 → (LPq sg n.toNat j : Int) ≤ n ∧ Bl sg n.toNat j
theorem Bls_0 {sg : Nat → Int32} {n k k2 : Int} (h : k2 ≤ k + 1) : Bls sg n k k2 := fun j h1 h2 => by omega
theorem Bls_s {sg : Nat → Int32} {n k k2 k3 q w : Int} {fr to : Nat → Int32} (h : Bls sg n k k2) (hq : Lqq sg n k2 q) (hn : q ≤ n) (h0 : 0 ≤ k2) (ht : TC sg n q w fr to) (hw : w ≤ 0) (e : k3 = k2 + 1) : Bls sg n k k3 := by
  intro j h1 h2
  by_cases ej : (j : Int) = k2
  · have hq : q = (LPq sg n.toNat k2.toNat : Int) := hq
    have e1 : k2.toNat = j := by omega
    rw [e1] at hq
    refine ⟨by omega, ?_⟩
    obtain ⟨c, hc, -, hx⟩ := ht
    have c0 : c = 0 := by omega
    subst c0
    have e2 : q.toNat = LPq sg n.toNat j := by omega
    rw [e2] at hx; exact hx
  · exact h j h1 (by omega)
theorem TC_l {sg : Nat → Int32} {n k q w : Int} {fr to : Nat → Int32} (h : TC sg n q w fr to) (hq : Lqq sg n k q) : TC sg n (LPq sg n.toNat k.toNat) w fr to := by
  have hq : q = (LPq sg n.toNat k.toNat : Int) := hq
  rw [← hq]; exact h
def NL (sg : Nat → Int32) (n k k2 r w q : Int) (fr to : Nat → Int32) : Prop := Bls sg n k k2 ∧ ((¬ r = 0 ∧ (LPq sg n.toNat k2.toNat : Int) ≤ n ∧ TC sg n (LPq sg n.toNat k2.toNat) w fr to ∧ 0 < w ∧ Lqq sg n (k2 + 1) q) ∨ (r = 0 ∧ n < (LPq sg n.toNat k2.toNat : Int)))
