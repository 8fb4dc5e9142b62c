def bpF (good : Nat → Bool) (s : Nat) : Nat → Option Nat
  | 0 => none
  | k + 1 => match bpF good s k with
    | none => if good k then some k else none
    | some p => if good k && decide (liN k s < liN p s) then some k else some p
def BpQ (good : Nat → Bool) (s k : Nat) : Option Nat → Prop
  | none => ∀ q : Nat, q < k → good q = false
  | some p => p < k ∧ good p = true ∧ ∀ q : Nat, q < k → good q = true → liN p s < liN q s ∨ (liN p s = liN q s ∧ p ≤ q)
theorem bpF_q {good : Nat → Bool} {s : Nat} : ∀ k : Nat, BpQ good s k (bpF good s k)
  | 0 => fun q hq => by omega
  | k + 1 => by
    have ih := bpF_q (good := good) (s := s) k
    unfold bpF
    cases h : bpF good s k with
    | none =>
      rw [h] at ih
      have ih : ∀ q : Nat, q < k → good q = false := ih
      cases g : good k with
      | false =>
        show ∀ q : Nat, q < k + 1 → good q = false
        intro q hq
        by_cases e : q = k
        · rw [e]; exact g
        · exact ih q (by omega)
      | true =>
        show k < k + 1 ∧ good k = true ∧ _
        refine ⟨by omega, g, fun q hq hg => ?_⟩
        by_cases e : q = k
        · exact Or.inr ⟨by rw [e], by omega⟩
        · rw [ih q (by omega)] at hg; cases hg
    | some p =>
      rw [h] at ih
      obtain ⟨i1, i2, i3⟩ := (ih : p < k ∧ good p = true ∧ ∀ q : Nat, q < k → good q = true → liN p s < liN q s ∨ (liN p s = liN q s ∧ p ≤ q))
      show BpQ good s (k + 1) (if good k && decide (liN k s < liN p s) then some k else some p)
      by_cases c : good k = true ∧ liN k s < liN p s
      · rw [if_pos (by rw [c.1, decide_eq_true c.2]; rfl)]
        refine ⟨by omega, c.1, fun q hq hg => ?_⟩
        by_cases e : q = k
        · exact Or.inr ⟨by rw [e], by omega⟩
        · have := i3 q (by omega) hg
          exact Or.inl (by omega)
      · have c2 : ¬ (good k && decide (liN k s < liN p s)) = true := fun z => by
          obtain ⟨z1, z2⟩ := (Bool.and_eq_true _ _).mp z
          exact c ⟨z1, of_decide_eq_true z2⟩
        rw [if_neg c2]
        refine ⟨by omega, i2, fun q hq hg => ?_⟩
        by_cases e : q = k
        · rw [e] at hg ⊢
          have : ¬ liN k s < liN p s := fun z => c ⟨hg, z⟩
          omega
        · exact i3 q (by omega) hg
def gdR (j s : Nat) (T : Nat → Bool) (p : Nat) : Bool := ioN p j s && prN p s T
def gdC (j s : Nat) (T : Nat → Bool) (p : Nat) : Bool := ioN p j s && wiN p s T
theorem pr_wi {p s : Nat} {T : Nat → Bool} (h : prN p s T = true) : wiN p s T = true := ((Bool.and_eq_true _ _).mp h).1
theorem wi_e {p s : Nat} {T : Nat → Bool} : wiN p s T = true ↔ ∀ j : Nat, j < 2 ^ s → ioN p j s = true → T j = true := by
  unfold wiN
  rw [List.all_eq_true]
  constructor
  · intro h j hj hi
    have z := h j (List.mem_range.mpr hj)
    rw [hi] at z; exact z
  · intro h j hj
    cases hi : ioN p j s with
    | false => rfl
    | true => rw [h j (List.mem_range.mp hj) hi]; rfl
theorem bp_same {j s : Nat} {T : Nat → Bool} (hs : s < 5) (hj : j < 2 ^ s) (hT : T j = true) : ∃ p : Nat, p < 3 ^ s ∧ bpF (gdR j s T) s (3 ^ s) = some p ∧ bpF (gdC j s T) s (3 ^ s) = some p := by
  have b4 := pw4 hs
  have qr := bpF_q (good := gdR j s T) (s := s) (3 ^ s)
  have qc := bpF_q (good := gdC j s T) (s := s) (3 ^ s)
  cases hc : bpF (gdC j s T) s (3 ^ s) with
  | none =>
    exfalso
    rw [hc] at qc
    have qc : ∀ q : Nat, q < 3 ^ s → gdC j s T q = false := qc
    obtain ⟨p, p1, p2⟩ := List.any_eq_true.mp (fu_t s hs j hj)
    obtain ⟨p3, p4⟩ := (Bool.and_eq_true _ _).mp p2
    have z := qc p (List.mem_range.mp p1)
    unfold gdC at z
    have w : wiN p s T = true := wi_e.mpr (fun i hi io => by
      have y := List.all_eq_true.mp p4 i (List.mem_range.mpr hi)
      rw [io] at y
      have y : (i == j) = true := y
      rw [beq_iff_eq.mp y]; exact hT)
    rw [p3, w] at z; cases z
  | some p =>
    rw [hc] at qc
    obtain ⟨c1, c2, c3⟩ := (qc : p < 3 ^ s ∧ gdC j s T p = true ∧ ∀ q : Nat, q < 3 ^ s → gdC j s T q = true → liN p s < liN q s ∨ (liN p s = liN q s ∧ p ≤ q))
    obtain ⟨d1, d2⟩ := (Bool.and_eq_true _ _).mp c2
    have gp : gdR j s T p = true := by
      unfold gdR prN
      rw [d1, d2, Bool.true_and, Bool.true_and, List.all_eq_true]
      intro k hk
      have hk := List.mem_range.mp hk
      by_cases e : dgN p k = 0
      · rw [e]; rfl
      · obtain ⟨r1, r2, r3⟩ := rm_t hs c1 hk e
        cases hw : wiN (p - dgN p k * 3 ^ k) s T with
        | false =>
          cases (dgN p k == 0) <;> rfl
        | true =>
          exfalso
          have := c3 (p - dgN p k * 3 ^ k) (by omega) (by unfold gdC; rw [r3 j (by omega) d1, hw]; rfl)
          omega
    cases hr : bpF (gdR j s T) s (3 ^ s) with
    | none =>
      rw [hr] at qr
      have z := (qr : ∀ q : Nat, q < 3 ^ s → gdR j s T q = false) p c1
      rw [gp] at z; cases z
    | some q =>
      rw [hr] at qr
      obtain ⟨e1, e2, e3⟩ := (qr : q < 3 ^ s ∧ gdR j s T q = true ∧ ∀ p : Nat, p < 3 ^ s → gdR j s T p = true → liN q s < liN p s ∨ (liN q s = liN p s ∧ q ≤ p))
      obtain ⟨f1, f2⟩ := (Bool.and_eq_true _ _).mp e2
      have x1 := e3 p c1 gp
      have x2 := c3 q e1 (by unfold gdC; rw [f1, pr_wi f2]; rfl)
      exact ⟨p, c1, by rw [show q = p by omega], rfl⟩
def bestN (s : Nat) (T : Nat → Bool) (j : Nat) : Nat := (bpF (gdC j s T) s (3 ^ s)).getD 0
def cvN (s : Nat) (ps : List Nat) (j : Nat) : Bool := ps.any (fun p => ioN p j s)
def smN (s : Nat) (T : Nat → Bool) : Nat → Nat → List Nat → List Nat
  | 0, _, ps => ps
  | c + 1, j, ps => if T j && !cvN s ps j then smN s T c (j + 1) (ps ++ [bestN s T j]) else smN s T c (j + 1) ps
def csN (s : Nat) (ps : List Nat) : Nat := (ps.map (fun p => liN p s - 1)).sum + (ps.length - 1)
theorem csN_s {s p : Nat} {ps : List Nat} : csN s (ps ++ [p]) = csN s ps + (liN p s - 1) + (if ps = [] then 0 else 1) := by
  unfold csN
  rw [List.map_append, List.sum_append, List.length_append]
  show _ + (liN p s - 1 + 0) + (ps.length + 1 - 1) = _
  by_cases e : ps = []
  · rw [if_pos e, e]; show 0 + (liN p s - 1 + 0) + 0 = 0 + (0 - 1) + (liN p s - 1) + 0; omega
  · rw [if_neg e]
    have : 0 < ps.length := List.length_pos_iff.mpr e
    omega
theorem smN_l {s : Nat} {T : Nat → Bool} : ∀ (c j : Nat) (ps : List Nat), (smN s T c j ps).length ≤ ps.length + c
  | 0, j, ps => Nat.le_refl _
  | c + 1, j, ps => by
    unfold smN
    split
    · have := smN_l (s := s) (T := T) c (j + 1) (ps ++ [bestN s T j])
      rw [List.length_append] at this
      have this : _ ≤ ps.length + 1 + c := this
      omega
    · have := smN_l (s := s) (T := T) c (j + 1) ps
      omega
theorem best_b {s j : Nat} {T : Nat → Bool} (hs : s < 5) (hj : j < 2 ^ s) (hT : T j = true) : bestN s T j < 3 ^ s ∧ bpF (gdR j s T) s (3 ^ s) = some (bestN s T j) ∧ bpF (gdC j s T) s (3 ^ s) = some (bestN s T j) ∧ ioN (bestN s T j) j s = true := by
  obtain ⟨p, p1, p2, p3⟩ := bp_same hs hj hT
  have e : bestN s T j = p := by unfold bestN; rw [p3]; rfl
  have q := bpF_q (good := gdC j s T) (s := s) (3 ^ s)
  rw [p3] at q
  have q := (q : p < 3 ^ s ∧ gdC j s T p = true ∧ _).2.1
  rw [e]
  exact ⟨p1, p2, p3, ((Bool.and_eq_true _ _).mp q).1⟩
def SpE (o : cf_O) (ps : List Nat) : Prop := (o.1 70).toInt = (ps.length : Int) ∧ ∀ (k p : Nat), ps[k]? = some p → o.2.1 69 k = Int32.ofNat p
theorem m185 {s j : Nat} {t : Int32} {good : Nat → Bool} : ∀ o : Option Nat, o = none ∨ ∃ p, o = some p
  | none => Or.inl rfl
  | some p => Or.inr ⟨p, rfl⟩
def oI : Option Nat → Int32
  | none => -1
  | some p => Int32.ofNat p
theorem ofiN {p : Nat} (h : p < 1000) : (Int32.ofNat p).toInt = (p : Int) := Int32.toInt_ofNat_of_lt (by omega)
theorem sb_go {s j : Nat} {t v3 : Int32} {o : cf_O} {r : Int32 × cf_O} (hs : s < 5) (hj : j < 2 ^ s) (t0 : 0 ≤ t.toInt) (h70 : 0 ≤ (o.1 70).toInt ∧ (o.1 70).toInt ≤ 15) : ∀ (f k : Nat) (v8 : Int32), v8.toInt = (k : Int) → k ≤ 3 ^ s → gM_sum f 3 t (Int32.ofNat s) v3 (Int32.ofNat (3 ^ s)) (Int32.ofNat j) 0 (oI (bpF (gdR j s (bt t)) s k)) v8 o = some r → ∃ (f2 : Nat) (q : Int32), fM_literalsOf (oI (bpF (gdR j s (bt t)) s (3 ^ s))) (Int32.ofNat s) = some q ∧ gM_sum f2 1 t (Int32.ofNat s) (v3 + (if q ≤ 0 then 0 else q - 1) + (if o.1 70 + 1 ≤ 1 then 0 else 1)) (Int32.ofNat (3 ^ s)) (Int32.ofNat j + 1) 0 0 0 (fp (xp o 69 (o.1 70).toNatClampNeg (oI (bpF (gdR j s (bt t)) s (3 ^ s)))) 70 (o.1 70 + 1)) = some r
  | 0, k, v8, h8, hk, h => by cases h
  | f + 1, k, v8, h8, hk, h => by
    have b4 := pw4 hs
    have h : fM_sum_118 (gM_sum f) t (Int32.ofNat s) v3 (Int32.ofNat (3 ^ s)) (Int32.ofNat j) (oI (bpF (gdR j s (bt t)) s k)) v8 o = some r := h
    unfold fM_sum_118 at h
    have e3 : (Int32.ofNat (3 ^ s)).toInt = ((3 ^ s : Nat) : Int) := ofiN (by omega)
    rcases ifc h with ⟨a, h⟩ | ⟨a, h⟩
    · have a := Int32.le_iff_toInt_le.mp a
      have ek : k = 3 ^ s := by omega
      subst ek
      rcases ifc h with ⟨_, h⟩ | ⟨_, h⟩
      · cases h
      rw [opk, opk, opk] at h
      obtain ⟨q, hq, h⟩ := bd h
      refine ⟨f, q, hq, ?_⟩
      have go : ∀ x : Int32, fM_sum_236 (gM_sum f) t (Int32.ofNat s) (Int32.ofNat (3 ^ s)) (Int32.ofNat j) v3 x (fp (xp o 69 (o.1 70).toNatClampNeg (oI (bpF (gdR j s (bt t)) s (3 ^ s)))) 70 (o.1 70 + 1)) = some r → gM_sum f 1 t (Int32.ofNat s) (v3 + x + (if o.1 70 + 1 ≤ 1 then 0 else 1)) (Int32.ofNat (3 ^ s)) (Int32.ofNat j + 1) 0 0 0 (fp (xp o 69 (o.1 70).toNatClampNeg (oI (bpF (gdR j s (bt t)) s (3 ^ s)))) 70 (o.1 70 + 1)) = some r := fun x hx => by
        unfold fM_sum_236 at hx
        rw [opk] at hx
        rcases ifc hx with ⟨c, hx⟩ | ⟨c, hx⟩
        · have c : o.1 70 + 1 ≤ 1 := c
          rw [if_pos c]; exact hx
        · have c : ¬ o.1 70 + 1 ≤ 1 := c
          rw [if_neg c]; exact hx
      rcases ifc h with ⟨c, h⟩ | ⟨c, h⟩
      · rw [if_pos c]; exact go 0 h
      · rw [if_neg c]; exact go _ h
    · have a : ¬ (Int32.ofNat (3 ^ s)).toInt ≤ v8.toInt := fun q => a (Int32.le_iff_toInt_le.mpr q)
      have p8 := pW (v := v8) (by omega) (by omega)
      have e8 := on_i h8
      obtain ⟨q, hq, h⟩ := bd h
      rw [e8, io_t k (by omega) j (by omega) s hs] at hq
      have eq := Option.some.inj hq
      have nx : ∀ w : Int32, fM_sum_185 (gM_sum f) t (Int32.ofNat s) v3 (Int32.ofNat (3 ^ s)) (Int32.ofNat j) v8 w o = some r → w = oI (bpF (gdR j s (bt t)) s (k + 1)) → ∃ (f2 : Nat) (q : Int32), fM_literalsOf (oI (bpF (gdR j s (bt t)) s (3 ^ s))) (Int32.ofNat s) = some q ∧ gM_sum f2 1 t (Int32.ofNat s) (v3 + (if q ≤ 0 then 0 else q - 1) + (if o.1 70 + 1 ≤ 1 then 0 else 1)) (Int32.ofNat (3 ^ s)) (Int32.ofNat j + 1) 0 0 0 (fp (xp o 69 (o.1 70).toNatClampNeg (oI (bpF (gdR j s (bt t)) s (3 ^ s)))) 70 (o.1 70 + 1)) = some r := fun w hw ew => by
        rw [ew] at hw
        exact sb_go hs hj t0 h70 f (k + 1) (v8 + 1) (by omega) (by omega) hw
      have no : gdR j s (bt t) k = false → fM_sum_150 (gM_sum f) t (Int32.ofNat s) v3 (Int32.ofNat (3 ^ s)) (Int32.ofNat j) (oI (bpF (gdR j s (bt t)) s k)) v8 o = some r → oI (bpF (gdR j s (bt t)) s k) = oI (bpF (gdR j s (bt t)) s (k + 1)) ∧ fM_sum_185 (gM_sum f) t (Int32.ofNat s) v3 (Int32.ofNat (3 ^ s)) (Int32.ofNat j) v8 (oI (bpF (gdR j s (bt t)) s k)) o = some r := fun g hh => by
        refine ⟨?_, ?_⟩
        · conv => rhs; unfold bpF
          cases bpF (gdR j s (bt t)) s k with
          | none => show _ = oI (if gdR j s (bt t) k then some k else none); rw [g]; rfl
          | some p => show _ = oI (if gdR j s (bt t) k && _ then some k else some p); rw [g]; rfl
        · unfold fM_sum_150 fM_sum_151 at hh
          rw [if_pos rfl] at hh
          exact hh
      rcases ifc h with ⟨c, h⟩ | ⟨c, h⟩
      · rw [← eq] at c
        obtain ⟨z1, z2⟩ := no (by unfold gdR; rw [bI_0.mp c]; rfl) h
        exact nx _ z2 z1
      · have io : ioN k j s = true := by
          cases hio : ioN k j s with
          | true => rfl
          | false => rw [hio] at eq; exact absurd eq.symm c
        obtain ⟨u, hu, h⟩ := bd h
        rw [e8] at hu
        have eu := pr_sp (by omega) hs t0 hu
        rcases ifc h with ⟨d, h⟩ | ⟨d, h⟩
        · rw [eu] at d
          obtain ⟨z1, z2⟩ := no (by unfold gdR; rw [bI_0.mp d, io]; rfl) h
          exact nx _ z2 z1
        · have pr : prN k s (bt t) = true := by
            cases hpr : prN k s (bt t) with
            | true => rfl
            | false => rw [hpr] at eu; exact absurd eu d
          have g : gdR j s (bt t) k = true := by unfold gdR; rw [io, pr]; rfl
          unfold fM_sum_151 at h
          rw [if_neg (by decide)] at h
          cases hb : bpF (gdR j s (bt t)) s k with
          | none =>
            rw [hb] at h
            rw [if_pos (show oI none < 0 by decide)] at h
            refine nx v8 h ?_
            unfold bpF
            rw [hb]
            show v8 = oI (if gdR j s (bt t) k then some k else none)
            rw [g, e8]; rfl
          | some p =>
            rw [hb] at h
            have pk : p < k := by
              have z := bpF_q (good := gdR j s (bt t)) (s := s) k
              rw [hb] at z
              exact (z : p < k ∧ _).1
            have ep : (Int32.ofNat p).toInt = (p : Int) := ofiN (by omega)
            rw [if_neg (show ¬ oI (some p) < 0 from fun z => by
              have z := Int32.lt_iff_toInt_lt.mp z
              have z : (Int32.ofNat p).toInt < 0 := z
              omega)] at h
            obtain ⟨l1, hl1, h⟩ := bd h
            obtain ⟨l2, hl2, h⟩ := bd h
            rw [e8, li_t k (by omega) s hs] at hl1
            have hl2 : fM_literalsOf (Int32.ofNat p) (Int32.ofNat s) = some l2 := hl2
            rw [li_t p (by omega) s hs] at hl2
            have f1 := Option.some.inj hl1
            have f2 := Option.some.inj hl2
            have b1 := li_b k (by omega) s hs
            have b2 := li_b p (by omega) s hs
            have g1 : l1.toInt = (liN k s : Int) := by rw [← f1]; exact ofiN (by omega)
            have g2 : l2.toInt = (liN p s : Int) := by rw [← f2]; exact ofiN (by omega)
            rcases ifc h with ⟨y, h⟩ | ⟨y, h⟩
            · have y := Int32.le_iff_toInt_le.mp y
              refine nx (oI (some p)) h ?_
              conv => rhs; unfold bpF
              rw [hb]
              show oI (some p) = oI (if gdR j s (bt t) k && decide (liN k s < liN p s) then some k else some p)
              rw [g, decide_eq_false (by omega)]; rfl
            · have y : ¬ l2.toInt ≤ l1.toInt := fun z => y (Int32.le_iff_toInt_le.mpr z)
              refine nx v8 h ?_
              conv => rhs; unfold bpF
              rw [hb]
              show v8 = oI (if gdR j s (bt t) k && decide (liN k s < liN p s) then some k else some p)
              rw [g, decide_eq_true (by omega), e8]; rfl
