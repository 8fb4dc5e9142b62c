def FaE (c : Nat) (fa fb : Nat → Int32) : Prop := ∀ i : Nat, i < c → fa (4 * i) = fb (4 * i) ∧ fa (4 * i + 1) = fb (4 * i + 1) ∧ fa (4 * i + 2) = fb (4 * i + 2) ∧ fa (4 * i + 3) = fb (4 * i + 3)
theorem FaE_l {c : Nat} {li : cf_O} {fa : Nat → Int32} (h : LRq c li fa) : FaE c fa (faL li) := fun i hi => by
  have f := faL_0 (li := li) (i := i)
  have g := (h.2 i hi).1
  exact ⟨by rw [f.1, g.1], by rw [f.2.1, g.2.1], by rw [f.2.2.1, g.2.2.1], by rw [f.2.2.2, g.2.2.2]⟩
theorem FcQ_e {c : Nat} {fa fb : Nat → Int32} (e : FaE c fa fb) (h : FcQ c fa) : FcQ c fb := ⟨h.1, fun i hi => by
  have q := e i hi
  rw [← q.1, ← q.2.1, ← q.2.2.1, ← q.2.2.2]; exact h.2 i hi⟩
theorem ivN_n {fa : Nat → Int32} {k : Nat} (hv : ¬ isV fa k = true) : ivN fa (k + 1) = ivN fa k := by
  show (if isV fa k = true then _ else ivN fa k) = _
  rw [if_neg hv]
theorem iv_e {c : Nat} {fa fb : Nat → Int32} (e : FaE c fa fb) (k : Nat) : k ≤ c → ivN fa k = ivN fb k := by
  induction k with
  | zero => exact fun _ => rfl
  | succ k ih =>
    intro h
    have ih := ih (by omega)
    have q := e k (by omega)
    have v : isV fa k = isV fb k := by unfold isV; rw [q.2.2.1, q.2.2.2]
    by_cases w : isV fb k = true
    · have a1 := ivN_s (fa := fa) (by rw [v]; exact w)
      have a2 := ivN_s w
      rw [ih] at a1
      cases z : ivN fb k with
      | none =>
        rw [z] at a1 a2
        have a1 : ivN fa (k + 1) = some k := a1
        have a2 : ivN fb (k + 1) = some k := a2
        rw [a1, a2]
      | some j =>
        rw [z] at a1 a2
        have a1 : ivN fa (k + 1) = (if qkR fa k j = true then some k else some j) := a1
        have a2 : ivN fb (k + 1) = (if qkR fb k j = true then some k else some j) := a2
        have jl := (ivN_l z).1
        have qj := e j (by omega)
        have r : qkR fa k j = qkR fb k j := by unfold qkR; rw [q.1, q.2.1, qj.1, qj.2.1]
        rw [a1, a2, r]
    · rw [ivN_n w, ivN_n (by rw [v]; exact w), ih]
theorem cv_e {c cl a s : Nat} {fa fb : Nat → Int32} {x : Nat → Nat} (e : FaE c fa fb) (h : cl < c) : cvV fa cl a s x = cvV fb cl a s x := by
  have q := e cl h
  unfold cvV
  rw [q.1, q.2.1]
theorem mkW_e {c v l : Nat} {fa fb : Nat → Int32} {op : Option Nat} (e : FaE c fa fb) : mkW fa v op c l = mkW fb v op c l := by
  have i := iv_e e c (Nat.le_refl _)
  cases op with
  | none => rw [mkW_n, mkW_n]
  | some t =>
    cases z : ivN fb c with
    | none => rw [mkW_0 z, mkW_0 (i.trans z)]
    | some j =>
      rw [mkW_1 z, mkW_1 (i.trans z)]
      have : tnV fa j t l = tnV fb j t l := cv_e e (ivN_l z).1
      rw [this]
theorem CwS_fa {b n c cl l x : Nat} {gr : cf_O} {fa fb : Nat → Int32} {mt : Nat → Option Nat} {C : List Int} (e : FaE c fa fb) (h : cl < c) (q : CwS b n gr fa mt C cl l x) : CwS b n gr fb mt C cl l x := by
  obtain ⟨W, h1, h2, p, h3, h4, a, h5, h6, h7⟩ := q
  have z := e cl h
  exact ⟨W, h1, by rw [← z.2.2.1]; exact h2, p, h3, h4, a, h5, by rw [← z.2.2.2]; exact h6, by rw [h7]; exact cv_e e h⟩
theorem FaE_s {c : Nat} {fa fb : Nat → Int32} (e : FaE c fa fb) : FaE c fb fa := fun i hi => ⟨(e i hi).1.symm, (e i hi).2.1.symm, (e i hi).2.2.1.symm, (e i hi).2.2.2.symm⟩
theorem SwQ_fa {b n c m : Nat} {gr : cf_O} {fa fb : Nat → Int32} {Cs : Nat → List Int → Prop} {w : Nat → Nat} (e : FaE c fa fb) (h : SwQ b n c m gr fa Cs w) : SwQ b n c m gr fb Cs w := by
  refine ⟨fun k k1 k2 k3 => by rw [← mkW_e e]; exact h.1 k k1 k2 k3, fun g g1 g2 => ?_⟩
  obtain ⟨v, hv⟩ := h.2 g g1 g2
  refine ⟨v, fun l hl => ⟨MnQ_e (hv l hl).1 (fun x => ⟨fun ⟨C, c1, cl, c2, c3⟩ => ⟨C, c1, cl, c2, CwS_fa e c2 c3⟩, fun ⟨C, c1, cl, c2, c3⟩ => ⟨C, c1, cl, c2, CwS_fa (FaE_s e) c2 c3⟩⟩), ?_⟩⟩
  rw [← mkW_e e]; exact (hv l hl).2
theorem RwQ_c {b c m : Nat} {om : cf_O} {w u : Nat → Nat} (h : RwQ b c m om w) (e : ∀ x : Nat, 2 ≤ x → x < 2 * m → w x = u x) : RwQ b c m om u := fun x x2 xm => by
  have := h x x2 xm
  rw [e x x2 xm] at this; exact this
theorem mf_pin {fa f : Nat → Int32} {a c B T : Nat} (h : MfQ fa f a c B T) (hB : B ≤ 1024) (hA : ArQ c fa) : (f (a + 1)).toInt = (celW (pkM fa f a) : Int) ∧ celW (pkM fa f a) < c ∧ (f a).toInt = ((pkM fa f a / 2 ^ 44 : Nat) : Int) ∧ ∀ k : Nat, k < 3 → ((k : Int) < (fa (4 * celW (pkM fa f a) + 2)).toInt → (f (a + 2 + k)).toInt = (pinW (pkM fa f a) k : Int)) ∧ (¬ (k : Int) < (fa (4 * celW (pkM fa f a) + 2)).toInt → (f (a + 2 + k)).toInt = -1) := by
  obtain ⟨cl, s, ⟨h1, h1'⟩, ⟨h2, h2'⟩, h3, h4⟩ := h
  have A1 := hA.2 cl h1
  have c12 := hA.1
  have bd3 : ∀ (x : Int) (s k : Nat), ((k < s → 0 ≤ x ∧ x < (B : Int)) ∧ (s ≤ k → x = -1)) → x.toNat < 1024 := fun x s k h => by
    by_cases z : k < s
    · have := h.1 z; omega
    · have := h.2 (by omega); omega
  have f0 : (f (a + 2)).toInt.toNat < 1024 := bd3 _ _ _ (h4 0 (by decide))
  have f1 : (f (a + 3)).toInt.toNat < 1024 := bd3 _ _ _ (h4 1 (by decide))
  have f2 : (f (a + 4)).toInt.toNat < 1024 := bd3 _ _ _ (h4 2 (by decide))
  have ec : (f (a + 1)).toInt.toNat = cl := by omega
  have F := fld (T := (f a).toInt.toNat) (A := (fa (4 * cl)).toInt.toNat) (c := cl) (by omega) (by omega) f0 f1 f2
  have ep : pkM fa f a = (f a).toInt.toNat * 2 ^ 44 + (fa (4 * cl)).toInt.toNat * 2 ^ 34 + cl * 2 ^ 30 + ((f (a + 2)).toInt.toNat * 2 ^ 20 + (f (a + 3)).toInt.toNat * 2 ^ 10 + (f (a + 4)).toInt.toNat) := by
    unfold pkM
    rw [ec]; omega
  rw [← ep] at F
  obtain ⟨F1, F2, F3, F4⟩ := F
  refine ⟨by rw [F1]; exact h1', by rw [F1]; exact h1, by rw [ep]; omega, fun k hk => ?_⟩
  rw [F1, h2]
  have hk4 := h4 k hk
  refine ⟨fun q => ?_, fun q => hk4.2 (by omega)⟩
  have q1 := hk4.1 (by omega)
  rcases (show k = 0 ∨ k = 1 ∨ k = 2 by omega) with e | e | e
  · subst e
    have q1 : 0 ≤ (f (a + 2)).toInt ∧ (f (a + 2)).toInt < (B : Int) := q1
    show (f (a + 2)).toInt = _
    rw [F2]; omega
  · subst e
    have q1 : 0 ≤ (f (a + 3)).toInt ∧ (f (a + 3)).toInt < (B : Int) := q1
    show (f (a + 3)).toInt = _
    rw [F3]; omega
  · subst e
    have q1 : 0 ≤ (f (a + 4)).toInt ∧ (f (a + 4)).toInt < (B : Int) := q1
    show (f (a + 4)).toInt = _
    rw [F4]; omega
theorem want_eq {b n c M : Nat} {gr li mp om om2 : cf_O} {Cs : Nat → List Int → Prop} (hb : 1 ≤ b) (hN : b + n ≤ 209) (hF : FcQ c (om.2.1 84)) (eF : FaE c (om.2.1 84) (faL li)) (R : RwQ b c (b + n) om (wvM mp)) (S : SwQ b n c (b + n) gr (faL li) Cs (wvM mp)) (T : TmbQ mp (b + n)) (hC : CsQ Cs b (b + n)) (w01 : wvM mp 0 = 0 ∧ wvM mp 1 = 0) (ou : ∀ k : Nat, k < M → otN gr k < 2 * (b + n)) (on : ∀ k : Nat, k < M → ¬ wvM mp (otN gr k) = NOM) (W : WfQ b n li mp (fun y => ∃ k : Nat, k < M ∧ y = otN gr k)) (L : LeQ (OuQ b M gr) (PiR b om) (fun x => x < 420 ∧ om2.2.1 92 x = 1)) : (∀ x : Nat, (x < 420 ∧ om2.2.1 92 x = 1) ↔ (x < 2 * (b + n) ∧ ipC mp x = true)) ∧ ∀ x : Nat, x < 2 * (b + n) → ipC mp x = true → 2 ≤ x ∧ gvB b x = false ∧ ¬ wvM mp x = NOM := by
  have hF2 := FcQ_e eF hF
  obtain ⟨W1, W2, W3, W4, W5⟩ := W
  have gv0 : ∀ x : Nat, 2 ≤ x → x < 2 * (b + n) → gvB b x = true → wvM mp x = 0 := fun x x2 xN g => by
    unfold gvB at g
    have g := of_decide_eq_true g
    have := (S.1 (x / 2) (by omega) (by omega) (by omega)).1
    rw [show 2 * (x / 2) = x by omega] at this; exact this
  have sp := fun x y (x2 : 2 ≤ x) (xN : x < 2 * (b + n)) (g : gvB b x = false) (nx : ¬ wvM mp x = NOM) => sw_pin (y := y) hF2 hb hN S T hC x2 xN g nx
  have wt : ∀ x : Nat, wtB b x = true ↔ (2 ≤ x ∧ gvB b x = false) := fun x => by
    unfold wtB
    rw [Bool.and_eq_true, decide_eq_true_iff, Bool.not_eq_true']
  have pp : ∀ x y : Nat, 2 ≤ x → x < 2 * (b + n) → gvB b x = false → ¬ wvM mp x = NOM → ((∃ k : Nat, k < 3 ∧ (om.2.1 87 (5 * x + 2 + k)).toInt = (y : Int)) ↔ PiQ (faL li) (wvM mp) x y) := fun x y x2 xN g nx => by
    rcases R x x2 xN with ⟨z, _⟩ | ⟨_, ⟨_, z⟩ | ⟨_, z2, z3⟩⟩
    · rw [g] at z; cases z
    · exact absurd z nx
    · obtain ⟨m1, m2, m3, m4⟩ := mf_pin z2 (by omega) (FcQ_a hF)
      rw [← z3] at m1 m2 m3 m4
      have e2 := (eF _ m2).2.2.1
      constructor
      · rintro ⟨k, k1, k2⟩
        by_cases lt : (k : Int) < (om.2.1 84 (4 * celW (wvM mp x) + 2)).toInt
        · have := (m4 k k1).1 lt
          exact ⟨k, by rw [← e2]; exact lt, k1, by omega⟩
        · have := (m4 k k1).2 lt
          omega
      · rintro ⟨k, k1, k2, k3⟩
        rw [← e2] at k1
        exact ⟨k, k2, by rw [(m4 k k2).1 k1, k3]⟩
  have J : LeQ (OuQ b M gr) (PiR b om) (fun x => x < 2 * (b + n) ∧ mp.2.1 6 x = 1 ∧ wtB b x = true) := by
    refine ⟨fun x hx => ?_, fun x y hx hy => ?_, fun A a1 a2 x hx => ?_⟩
    · obtain ⟨⟨k, k1, k2⟩, w⟩ := hx
      exact ⟨by rw [k2]; exact ou k k1, W2 x ⟨k, k1, k2⟩, w⟩
    · obtain ⟨h1, h2, h3⟩ := hx
      obtain ⟨p1, p2⟩ := hy
      have w := (wt x).mp h3
      have nx := W3 x h1 h2
      have pq := (pp x y w.1 h1 w.2 nx).mp p1
      have q := sp x y w.1 h1 w.2 nx
      exact ⟨by have := (q.2 pq).2.1; omega, W5 x (by omega) h1 h2 q.1.2.2.2 y pq, p2⟩
    · obtain ⟨h1, h2, h3⟩ := hx
      have q := W4 (fun y => ¬ wvM mp y = NOM ∧ (wtB b y = true → A y)) (fun y ⟨k, k1, k2⟩ => ⟨by rw [k2]; exact on k k1, fun w => a1 y ⟨⟨k, k1, k2⟩, w⟩⟩) (fun u y ⟨u1, u2⟩ u3 u4 u5 u6 => by
        have g : gvB b u = false := by
          cases z : gvB b u with
          | false => rfl
          | true => exact absurd (gv0 u u3 u4 z) u5
        have q := (sp u y u3 u4 g u1).2 u6
        exact ⟨q.2.2, fun w => a2 u y (u2 ((wt u).mpr ⟨u3, g⟩)) ⟨(pp u y u3 u4 g u1).mpr u6, w⟩⟩) x h1 h2
      exact q.2 h3
  have ipw : ∀ x : Nat, x < 2 * (b + n) → (ipC mp x = true ↔ (mp.2.1 6 x = 1 ∧ wtB b x = true)) := fun x xN => by
    have un : ipC mp x = true ↔ ((2 ≤ x ∧ mp.2.1 6 x = 1) ∧ ¬ wvM mp x = 0) := by
      unfold ipC
      rw [Bool.and_eq_true, Bool.and_eq_true, decide_eq_true_iff, decide_eq_true_iff, decide_eq_true_iff]
    rw [un, wt]
    constructor
    · rintro ⟨⟨z1, z2⟩, z3⟩
      refine ⟨z2, z1, ?_⟩
      cases z : gvB b x with
      | false => rfl
      | true => exact absurd (gv0 x z1 xN z) z3
    · rintro ⟨z1, z2, z3⟩
      exact ⟨⟨z2, z1⟩, (sp x 0 z2 xN z3 (W3 x xN z1)).1.2.2.2⟩
  refine ⟨fun x => (LeQ_u L J x).trans ⟨fun ⟨z1, z2, z3⟩ => ⟨z1, (ipw x z1).mpr ⟨z2, z3⟩⟩, fun ⟨z1, z2⟩ => ⟨z1, ((ipw x z1).mp z2).1, ((ipw x z1).mp z2).2⟩⟩, fun x xN hx => ?_⟩
  have z := (ipw x xN).mp hx
  have w := (wt x).mp z.2
  exact ⟨w.1, w.2, W3 x xN z.1⟩
