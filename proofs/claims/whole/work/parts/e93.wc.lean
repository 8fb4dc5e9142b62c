def pbN (p : Nat) : Nat := (List.range 16).foldl (fun a j => if ioN p j 4 then a + 2 ^ j else a) 0
def PbI (re : cf_O) : Prop := ∀ p : Nat, p < 81 → re.2.1 8 p = Int32.ofNat (pbN p) ∧ re.2.1 9 p = Int32.ofNat (liN p 4)
theorem pb_b : ∀ p : Nat, p < 81 → ∀ j : Nat, j < 32 → bt (Int32.ofNat (pbN p)) j = (decide (j < 16) && ioN p j 4) := by decide +kernel
theorem pb_0 : ∀ p : Nat, p < 81 → 0 ≤ (Int32.ofNat (pbN p)).toInt := by decide +kernel
theorem bt_and {x y : Int32} {u : Nat} : bt (x &&& y) u = (bt x u && bt y u) := by unfold bt; rw [Int32.toBitVec_and, BitVec.toNat_and, Nat.testBit_and]
theorem bt_xm {x : Int32} {u : Nat} (hu : u < 32) : bt (x ^^^ (-1)) u = !bt x u := by
  unfold bt
  show (x ^^^ (-1)).toBitVec.getLsbD u = !x.toBitVec.getLsbD u
  rw [Int32.toBitVec_xor, BitVec.getLsbD_xor, show (-1 : Int32).toBitVec = BitVec.allOnes 32 from by decide, BitVec.getLsbD_allOnes, decide_eq_true hu, Bool.xor_true]
theorem bt_e {x y : Int32} (h : ∀ j : Nat, j < 32 → bt x j = bt y j) : x = y := Int32.toBitVec_inj.mp (BitVec.eq_of_getLsbD_eq (fun j hj => h j hj))
theorem fl_t : ∀ s : Nat, s < 6 → fCo_full (Int32.ofNat s) = some (if s = 5 then -1 else Int32.ofNat (2 ^ 2 ^ s - 1)) := by decide +kernel
theorem fl_b : ∀ s : Nat, s < 6 → ∀ j : Nat, j < 32 → bt (if s = 5 then -1 else Int32.ofNat (2 ^ 2 ^ s - 1)) j = decide (j < 2 ^ s) := by decide +kernel
theorem cp_t : ∀ s : Nat, s < 5 → cf_powers s = Int32.ofNat (3 ^ s) := by decide +kernel
def TbQ (s : Nat) (t : Int32) : Prop := ∀ j : Nat, j < 32 → 2 ^ s ≤ j → bt t j = false
theorem pa_go {s j : Nat} {t z : Int32} {re : cf_O} (hs : s < 5) (hj : j < 2 ^ s) (P : PbI re) (hz : ∀ i : Nat, i < 32 → bt z i = (decide (i < 2 ^ s) && !bt t i)) : ∀ (f k : Nat) (v6 r : Int32), v6.toInt = (k : Int) → k ≤ 3 ^ s → gRe_productAt f 0 (Int32.ofNat j) (Int32.ofNat s) z (oI (bpF (gdC j s (bt t)) s k)) v6 re = some r → r = op_mx (oI (bpF (gdC j s (bt t)) s (3 ^ s))) 0
  | 0, k, v6, r, h6, hk, h => by cases h
  | f + 1, k, v6, r, h6, hk, h => by
    have b4 := pw4 hs
    have h : fRe_productAt_16 (gRe_productAt f) (Int32.ofNat j) (Int32.ofNat s) z (oI (bpF (gdC j s (bt t)) s k)) v6 re = some r := h
    unfold fRe_productAt_16 at h
    have es : (Int32.ofNat s).toInt = (s : Int) := ofiN (by omega)
    have e3 : (Int32.ofNat (3 ^ s)).toInt = ((3 ^ s : Nat) : Int) := ofiN (by omega)
    rcases ifc h with ⟨_, h⟩ | ⟨_, h⟩
    · cases h
    rw [opk, tW es, cp_t s hs] at h
    rcases ifc h with ⟨a, h⟩ | ⟨a, h⟩
    · have a := Int32.le_iff_toInt_le.mp a
      have e : k = 3 ^ s := by omega
      subst e
      exact (Option.some.inj h).symm
    · have a : ¬ (Int32.ofNat (3 ^ s)).toInt ≤ v6.toInt := fun q => a (Int32.le_iff_toInt_le.mpr q)
      have p6 := pW (v := v6) (by omega) (by omega)
      have e6 := on_i h6
      have k81 : k < 81 := by omega
      have Pk := P k k81
      rcases ifc h with ⟨_, h⟩ | ⟨_, h⟩
      · cases h
      rw [opk, opk, opk, tW h6, Pk.1] at h
      have tb := tbit (t := Int32.ofNat (pbN k)) (j := j) (pb_0 k k81) (by omega)
      have ei : bt (Int32.ofNat (pbN k)) j = ioN k j s := by
        rw [pb_b k k81 j (by omega), decide_eq_true (by omega), Bool.true_and]
        exact io_4 s hs k (by omega) j (by omega)
      have nx : ∀ w : Int32, fRe_productAt_92 (gRe_productAt f) (Int32.ofNat j) (Int32.ofNat s) z w v6 re = some r → w = oI (bpF (gdC j s (bt t)) s (k + 1)) → r = op_mx (oI (bpF (gdC j s (bt t)) s (3 ^ s))) 0 := fun w q ew => by
        rw [ew] at q
        exact pa_go hs hj P hz f (k + 1) (v6 + 1) r (by omega) (by omega) q
      have no : gdC j s (bt t) k = false → fRe_productAt_57 (gRe_productAt f) (Int32.ofNat j) (Int32.ofNat s) z (oI (bpF (gdC j s (bt t)) s k)) v6 re = some r → r = op_mx (oI (bpF (gdC j s (bt t)) s (3 ^ s))) 0 := fun g q => by
        unfold fRe_productAt_57 fRe_productAt_58 at q
        rw [if_pos rfl] at q
        refine nx _ q ?_
        conv => rhs; unfold bpF
        cases bpF (gdC j s (bt t)) s k with
        | none => show _ = oI (if gdC j s (bt t) k then some k else none); rw [g]; rfl
        | some p => show _ = oI (if gdC j s (bt t) k && _ then some k else some p); rw [g]; rfl
      rcases ifc h with ⟨c, h⟩ | ⟨c, h⟩
      · exact no (by unfold gdC; rw [← ei, tb.2.mp c]; rfl) h
      · have io : ioN k j s = true := by
          rw [← ei]
          cases hb : bt (Int32.ofNat (pbN k)) j with
          | true => rfl
          | false => exact absurd (tb.2.mpr hb) c
        rcases ifc h with ⟨_, h⟩ | ⟨_, h⟩
        · cases h
        rw [opk, opk] at h
        have we : Int32.ofNat (pbN k) &&& z = 0 ↔ wiN k s (bt t) = true := by
          rw [wi_e]
          constructor
          · intro q i hi hio
            have b0 : bt (Int32.ofNat (pbN k) &&& z) i = false := by rw [q]; exact bt_0
            rw [bt_and, pb_b k k81 i (by omega), hz i (by omega), decide_eq_true (by omega), decide_eq_true hi, io_4 s hs k (by omega) i (by omega), hio] at b0
            cases hb : bt t i with
            | true => rfl
            | false => rw [hb] at b0; cases b0
          · intro q
            apply bt_e
            intro i hi
            rw [bt_0, bt_and, pb_b k k81 i hi, hz i hi]
            by_cases c1 : i < 2 ^ s
            · rw [decide_eq_true c1, decide_eq_true (show i < 16 by omega), io_4 s hs k (by omega) i (by omega)]
              cases hio : ioN k i s with
              | false => rfl
              | true => rw [q i c1 hio]; rfl
            · rw [decide_eq_false c1, Bool.false_and, Bool.and_false]
        rcases ifc h with ⟨d, h⟩ | ⟨d, h⟩
        · have g : gdC j s (bt t) k = true := by unfold gdC; rw [io, we.mp d]; rfl
          unfold fRe_productAt_58 at h
          rw [if_neg (by decide)] at h
          cases hb : bpF (gdC j s (bt t)) s k with
          | none =>
            rw [hb] at h
            rw [if_pos (show oI none = -1 from rfl)] at h
            refine nx v6 h ?_
            unfold bpF
            rw [hb]
            show v6 = oI (if gdC j s (bt t) k then some k else none)
            rw [g, e6]; rfl
          | some p =>
            rw [hb] at h
            have pk : p < k := by
              have y := bpF_q (good := gdC j s (bt t)) (s := s) k
              rw [hb] at y
              exact (y : p < k ∧ _).1
            have ep : (Int32.ofNat p).toInt = (p : Int) := ofiN (by omega)
            rw [if_neg (show ¬ oI (some p) = -1 from fun y => by
              have y : Int32.ofNat p = -1 := y
              rw [y] at ep
              have : (-1 : Int32).toInt = -1 := by decide
              omega)] at h
            rcases ifc h with ⟨_, h⟩ | ⟨_, h⟩
            · cases h
            rw [opk, tW h6, Pk.2] at h
            rcases ifc h with ⟨_, h⟩ | ⟨_, h⟩
            · cases h
            rw [opk, show (oI (some p)).toNatClampNeg = p from tW ep, (P p (by omega)).2] at h
            have b1 := li_b k k81 4 (by decide)
            have b2 := li_b p (by omega) 4 (by decide)
            have g1 : (Int32.ofNat (liN k 4)).toInt = (liN k s : Int) := by rw [ofiN (by omega), li_4 s hs k (by omega)]
            have g2 : (Int32.ofNat (liN p 4)).toInt = (liN p s : Int) := by rw [ofiN (by omega), li_4 s hs p (by omega)]
            rcases ifc h with ⟨y, h⟩ | ⟨y, h⟩
            · have y := Int32.le_iff_toInt_le.mp y
              refine nx (oI (some p)) h ?_
              conv => rhs; unfold bpF
              rw [hb]
              show oI (some p) = oI (if gdC j s (bt t) k && decide (liN k s < liN p s) then some k else some p)
              rw [g, decide_eq_false (by omega)]; rfl
            · have y : ¬ (Int32.ofNat (liN p 4)).toInt ≤ (Int32.ofNat (liN k 4)).toInt := fun q => y (Int32.le_iff_toInt_le.mpr q)
              refine nx v6 h ?_
              conv => rhs; unfold bpF
              rw [hb]
              show v6 = oI (if gdC j s (bt t) k && decide (liN k s < liN p s) then some k else some p)
              rw [g, decide_eq_true (by omega), e6]; rfl
        · refine no ?_ h
          unfold gdC
          cases hw : wiN k s (bt t) with
          | true => exact absurd (we.mpr hw) d
          | false => rw [Bool.and_false]
theorem pa_sp {s j : Nat} {t v1 v3 r : Int32} {re : cf_O} (hs : s < 5) (hj : j < 2 ^ s) (P : PbI re) (e1 : v1 = Int32.ofNat j) (e3 : v3 = Int32.ofNat s) (hT : bt t j = true) (h : fRe_productAt v1 t v3 re = some r) : r = Int32.ofNat (bestN s (bt t) j) ∧ bestN s (bt t) j < 3 ^ s ∧ ioN (bestN s (bt t) j) j s = true := by
  have b4 := pw4 hs
  unfold fRe_productAt fRe_productAt_0 at h
  obtain ⟨q, hq, h⟩ := bd h
  rw [e3, fl_t s (by omega)] at hq
  have eq := (Option.some.inj hq).symm
  rw [opk, opk, e1, e3] at h
  have z := pa_go (t := t) hs hj P (z := q &&& (t ^^^ (-1))) (fun i hi => by rw [bt_and, bt_xm hi, eq, fl_b s (by omega) i hi]) cfFU 0 0 r rfl (Nat.zero_le _) h
  obtain ⟨B1, B2, B3, B4⟩ := best_b (T := bt t) hs hj hT
  rw [B3] at z
  refine ⟨?_, B1, B4⟩
  rw [z]
  apply Int32.toInt_inj.mp
  rw [mx_i]
  show max (Int32.ofNat (bestN s (bt t) j)).toInt 0 = _
  rw [ofiN (by omega)]
  omega
def SpC (o : cf_O) (ps : List Nat) : Prop := (o.1 11).toInt = (ps.length : Int) ∧ ∀ (k p : Nat), ps[k]? = some p → o.2.1 10 k = Int32.ofNat p
theorem Sc_s {o : cf_O} {ps : List Nat} {p : Nat} (S : SpC o ps) (hl : ps.length ≤ 15) : SpC (fp (xp o 10 (o.1 11).toNatClampNeg (Int32.ofNat p)) 11 (o.1 11 + 1)) (ps ++ [p]) := by
  have i := tW S.1
  have s1 := S.1
  refine ⟨?_, fun k q hk => ?_⟩
  · show (o.1 11 + 1).toInt = _
    rw [pW (by omega) (by omega), List.length_append, S.1]; rfl
  · show upd (o.2.1 10) (o.1 11).toNatClampNeg (Int32.ofNat p) k = _
    rw [i]
    by_cases c : k < ps.length
    · rw [List.getElem?_append_left c] at hk
      rw [up_o (by omega)]; exact S.2 k q hk
    · have kl : k < (ps ++ [p]).length := (List.getElem?_eq_some_iff.mp hk).1
      rw [List.length_append] at kl
      have kl : k < ps.length + 1 := kl
      have ek : k = ps.length := by omega
      subst ek
      rw [List.getElem?_append_right (Nat.le_refl _), Nat.sub_self] at hk
      rw [up_s, show p = q from Option.some.inj hk]
theorem sm_skip {s : Nat} {T : Nat → Bool} {ps : List Nat} : ∀ (d c j : Nat), (∀ i : Nat, j ≤ i → i < j + d → (T i && !cvN s ps i) = false) → smN s T (d + c) j ps = smN s T c (j + d) ps
  | 0, c, j, _ => by rw [Nat.zero_add, Nat.add_zero]
  | d + 1, c, j, h => by
    rw [show d + 1 + c = (d + c) + 1 by omega, smN, if_neg (by rw [h j (by omega) (by omega)]; decide), sm_skip d c (j + 1) (fun i h1 h2 => h i (by omega) (by omega)), show j + 1 + d = j + (d + 1) by omega]
theorem low_ex {f : Nat → Bool} : ∀ (n : Nat), (∃ j : Nat, j < n ∧ f j = true) → ∃ j : Nat, j < n ∧ f j = true ∧ ∀ i : Nat, i < j → f i = false
  | 0, ⟨j, h, _⟩ => by omega
  | n + 1, ⟨j, h1, h2⟩ => by
    by_cases c : ∃ i : Nat, i < n ∧ f i = true
    · obtain ⟨i, a, b, d⟩ := low_ex n c
      exact ⟨i, by omega, b, d⟩
    · refine ⟨j, h1, h2, fun i hi => ?_⟩
      cases hf : f i with
      | false => rfl
      | true => exact absurd ⟨i, by omega, hf⟩ c
theorem fs_go {s : Nat} {t : Int32} {RE : cf_O} (hs : s < 5) (hT : TbQ s t) : ∀ (f m j : Nat) (v3 v4 : Int32) (ps : List Nat) (re r : cf_O), v4.toInt = (m : Int) → m ≤ j → j ≤ 2 ^ s → ps.length ≤ m → PbI re → SpC re ps → (∀ p ∈ ps, p < 3 ^ s) → (∀ i : Nat, i < 32 → bt v3 i = (bt t i && !cvN s ps i)) → (∀ i : Nat, i < j → bt v3 i = false) → Fr (fr_M [11] [10] []) RE re → gRe_findSum f 0 t (Int32.ofNat s) v3 v4 re = some r → SpC r (smN s (bt t) (2 ^ s - j) j ps) ∧ Fr (fr_M [11] [10] []) RE r
  | 0, m, j, v3, v4, ps, re, r, h4, mj, js, pl, P, S, hp, hl, hn, F, h => by cases h
  | f + 1, m, j, v3, v4, ps, re, r, h4, mj, js, pl, P, S, hp, hl, hn, F, h => by
    have b4 := pw4 hs
    have h : fRe_findSum_10 (gRe_findSum f) t (Int32.ofNat s) v3 v4 re = some r := h
    unfold fRe_findSum_10 at h
    have fin : (∀ i : Nat, i < 32 → bt v3 i = false) → fRe_findSum_75 (gRe_findSum f) re = some r → SpC r (smN s (bt t) (2 ^ s - j) j ps) ∧ Fr (fr_M [11] [10] []) RE r := fun hz q => by
      have er : re = r := Option.some.inj q
      rw [← er]
      have z := sm_skip (s := s) (T := bt t) (ps := ps) (2 ^ s - j) 0 j (fun i h1 h2 => by rw [← hl i (by omega)]; exact hz i (by omega))
      rw [Nat.add_zero] at z
      rw [z]
      exact ⟨S, F⟩
    have hz2 : ∀ i : Nat, i < 32 → 2 ^ s ≤ i → bt v3 i = false := fun i h1 h2 => by rw [hl i h1, hT i h1 h2]; rfl
    rcases ifc h with ⟨a, h⟩ | ⟨a, h⟩
    · have a := Int32.le_iff_toInt_le.mp a
      have a : 16 ≤ v4.toInt := a
      refine fin (fun i hi => ?_) h
      by_cases c : i < j
      · exact hn i c
      · exact hz2 i hi (by omega)
    · have a : ¬ (16 : Int32).toInt ≤ v4.toInt := fun q => a (Int32.le_iff_toInt_le.mpr q)
      have a : ¬ 16 ≤ v4.toInt := a
      rcases ifc h with ⟨c, h⟩ | ⟨c, h⟩
      · exact fin (fun i _ => by rw [c]; exact bt_0) h
      · have ex : ∃ i : Nat, i < 32 ∧ bt v3 i = true := by
          by_cases q : ∃ i : Nat, i < 32 ∧ bt v3 i = true
          · exact q
          · refine absurd (bt_e (fun i hi => ?_)) c
            rw [bt_0]
            cases hb : bt v3 i with
            | false => rfl
            | true => exact absurd ⟨i, hi, hb⟩ q
        obtain ⟨i, i1, i2, i3⟩ := low_ex 32 ex
        have ij : j ≤ i := by
          rcases Nat.lt_or_ge i j with q | q
          · rw [hn i q] at i2; cases i2
          · exact q
        have is : i < 2 ^ s := by
          rcases Nat.lt_or_ge i (2 ^ s) with q | q
          · exact q
          · rw [hz2 i i1 q] at i2; cases i2
        obtain ⟨q, hq, h⟩ := bd h
        have eq := ntz_i i1 i2 i3 hq
        obtain ⟨p, hp0, h⟩ := bd h
        have ti : bt t i = true ∧ cvN s ps i = false := by
          have z := hl i i1
          rw [i2] at z
          obtain ⟨z1, z2⟩ := (Bool.and_eq_true _ _).mp z.symm
          refine ⟨z1, ?_⟩
          cases hc : cvN s ps i with
          | false => rfl
          | true => rw [hc] at z2; cases z2
        obtain ⟨B1, B2, B3⟩ := pa_sp hs is P eq rfl ti.1 hp0
        rcases ifc h with ⟨_, h⟩ | ⟨_, h⟩
        · cases h
        rw [opk] at h
        rcases ifc h with ⟨_, h⟩ | ⟨_, h⟩
        · cases h
        have s1 := S.1
        have i11 := tW S.1
        have e12 : (xp re 10 (re.1 11).toNatClampNeg p).2.1 10 ((xp re 10 (re.1 11).toNatClampNeg p).1 11).toNatClampNeg = p := by
          show upd (re.2.1 10) (re.1 11).toNatClampNeg p (re.1 11).toNatClampNeg = p
          rw [up_s]
        rw [opk, e12] at h
        rcases ifc h with ⟨_, h⟩ | ⟨_, h⟩
        · cases h
        have ep : p.toInt = (bestN s (bt t) i : Int) := by rw [B1]; exact ofiN (by omega)
        have e8 : (xp re 10 (re.1 11).toNatClampNeg p).2.1 8 p.toNatClampNeg = Int32.ofNat (pbN (bestN s (bt t) i)) := by
          show re.2.1 8 p.toNatClampNeg = _
          rw [tW ep]; exact (P _ (by omega)).1
        rw [opk, opk, opk, opk, opk, opk, e8] at h
        have p4 := pW (v := v4) (by omega) (by omega)
        have sk := sm_skip (s := s) (T := bt t) (ps := ps) (i - j) (2 ^ s - i) j (fun k h1 h2 => by rw [← hl k (by omega)]; exact i3 k (by omega))
        rw [show i - j + (2 ^ s - i) = 2 ^ s - j by omega, show j + (i - j) = i by omega, show 2 ^ s - i = (2 ^ s - (i + 1)) + 1 by omega, smN, if_pos (by rw [ti.1, ti.2]; rfl)] at sk
        rw [sk]
        have cvs : ∀ k : Nat, cvN s (ps ++ [bestN s (bt t) i]) k = (cvN s ps k || ioN (bestN s (bt t) i) k s) := fun k => by
          unfold cvN
          rw [List.any_append]
          show (_ || (ioN (bestN s (bt t) i) k s || false)) = _
          rw [Bool.or_false]
        rw [B1] at h
        refine fs_go hs hT f (m + 1) (i + 1) _ (v4 + 1) (ps ++ [bestN s (bt t) i]) (fp (xp re 10 (re.1 11).toNatClampNeg (Int32.ofNat (bestN s (bt t) i))) 11 (re.1 11 + 1)) r (by omega) (by omega) (by omega) (by rw [List.length_append]; show ps.length + 1 ≤ _; omega) P (Sc_s S (by omega)) (fun x hx => ?_) (fun k hk => ?_) (fun k hk => ?_) (fr_fp (fr_xp F rfl) rfl) h
        · rcases List.mem_append.mp hx with y | y
          · exact hp x y
          · rw [List.mem_singleton.mp y]; exact B2
        · rw [bt_and, bt_xm hk, hl k hk, cvs, pb_b _ (by omega) k hk]
          by_cases c1 : k < 2 ^ s
          · rw [decide_eq_true (show k < 16 by omega), io_4 s hs _ B2 k (by omega)]
            cases bt t k <;> cases cvN s ps k <;> cases ioN (bestN s (bt t) i) k s <;> rfl
          · rw [hT k hk (by omega)]; rfl
        · rw [bt_and]
          by_cases c1 : k = i
          · rw [c1, bt_xm i1, pb_b _ (by omega) i i1, decide_eq_true (show i < 16 by omega), io_4 s hs _ B2 i (by omega), B3]
            cases bt v3 i <;> rfl
          · rw [i3 k (by omega)]; rfl
theorem fsum_sp {s : Nat} {t v2 : Int32} {re r : cf_O} (hs : s < 5) (e2 : v2.toInt = (s : Int)) (hT : TbQ s t) (P : PbI re) (h : fRe_findSum t v2 re = some r) : SpC r (smN s (bt t) (2 ^ s) 0 []) ∧ Fr (fr_M [11] [10] []) re r := by
  unfold fRe_findSum fRe_findSum_0 at h
  rw [opk, on_i e2] at h
  have z := fs_go hs hT cfFU 0 0 t 0 [] (fp re 11 0) r rfl (Nat.le_refl _) (Nat.zero_le _) (Nat.le_refl _) P ⟨rfl, fun k p hk => by cases hk⟩ (fun p hp => absurd hp (List.not_mem_nil)) (fun i hi => by show _ = (bt t i && true); rw [Bool.and_true]) (fun i hi => by omega) (fr_fp fr_rfl rfl) h
  rw [Nat.sub_zero] at z
  exact z
theorem sc_go {s : Nat} {re : cf_O} {ps : List Nat} (hs : s < 5) (P : PbI re) (S : SpC re ps) (hp : ∀ p ∈ ps, p < 3 ^ s) (hl : ps.length ≤ 16) : ∀ (f k : Nat) (v1 v2 r : Int32), v2.toInt = (k : Int) → k ≤ ps.length → 0 ≤ v1.toInt → v1.toInt ≤ 100 + 5 * k → gRe_sumCost f 0 v1 v2 re = some r → r.toInt = v1.toInt + (((ps.drop k).map (fun p => liN p s - 1)).sum : Int)
  | 0, k, v1, v2, r, h2, hk, a0, a1, h => by cases h
  | f + 1, k, v1, v2, r, h2, hk, a0, a1, h => by
    have b4 := pw4 hs
    have h : fRe_sumCost_13 (gRe_sumCost f) v1 v2 re = some r := h
    unfold fRe_sumCost_13 at h
    have s1 := S.1
    rcases ifc h with ⟨a, h⟩ | ⟨a, h⟩
    · have a := Int32.le_iff_toInt_le.mp a
      rw [List.drop_eq_nil_of_le (by omega), ← Option.some.inj h]
      show v1.toInt = v1.toInt + ((0 : Nat) : Int)
      omega
    · have a : ¬ (re.1 11).toInt ≤ v2.toInt := fun q => a (Int32.le_iff_toInt_le.mpr q)
      have kl : k < ps.length := by omega
      have ek : ps[k]? = some ps[k] := List.getElem?_eq_getElem kl
      have p3 := hp _ (List.getElem_mem kl)
      rcases ifc h with ⟨_, h⟩ | ⟨_, h⟩
      · cases h
      rw [opk, tW h2, S.2 k _ ek] at h
      rcases ifc h with ⟨_, h⟩ | ⟨_, h⟩
      · cases h
      have ep : (Int32.ofNat ps[k]).toInt = (ps[k] : Int) := ofiN (by omega)
      rw [opk, opk, opk, opk, opk, tW ep, (P _ (by omega)).2] at h
      have lb := li_b ps[k] (by omega) 4 (by decide)
      have el : (Int32.ofNat (liN ps[k] 4)).toInt = (liN ps[k] s : Int) := by rw [ofiN (by omega), li_4 s hs _ p3]
      have l4 := li_4 s hs _ p3
      have em : (op_mx (Int32.ofNat (liN ps[k] 4) - 1) 0).toInt = ((liN ps[k] s - 1 : Nat) : Int) := by
        rw [mx_i, Int32.toInt_sub, el, i_bm (by show -2147483648 ≤ _ - (1 : Int); omega) (by show _ - (1 : Int) ≤ _; omega)]
        show max (_ - (1 : Int)) (0 : Int) = _
        omega
      have ea : (v1 + op_mx (Int32.ofNat (liN ps[k] 4) - 1) 0).toInt = v1.toInt + ((liN ps[k] s - 1 : Nat) : Int) := by rw [i_add (by omega) (by omega), em]
      have p2 := pW (v := v2) (by omega) (by omega)
      have z := sc_go hs P S hp hl f (k + 1) _ (v2 + 1) r (by omega) (by omega) (by omega) (by omega) h
      rw [z, ea, List.drop_eq_getElem_cons kl, List.map_cons, List.sum_cons]
      omega
theorem scost_sp {s : Nat} {re : cf_O} {ps : List Nat} {r : Int32} (hs : s < 5) (P : PbI re) (S : SpC re ps) (hp : ∀ p ∈ ps, p < 3 ^ s) (hl : ps.length ≤ 16) (h : fRe_sumCost re = some r) : r.toInt = (csN s ps : Int) := by
  unfold fRe_sumCost fRe_sumCost_0 at h
  rw [opk, opk] at h
  have s1 := S.1
  have em : (op_mx (re.1 11 - 1) 0).toInt = ((ps.length - 1 : Nat) : Int) := by
    rw [mx_i, Int32.toInt_sub, i_bm (by show -2147483648 ≤ _ - (1 : Int); omega) (by show _ - (1 : Int) ≤ _; omega)]
    show max (_ - (1 : Int)) (0 : Int) = _
    omega
  have z := sc_go hs P S hp hl cfFU 0 _ 0 r rfl (Nat.zero_le _) (by omega) (by omega) h
  rw [List.drop_zero, em] at z
  rw [z]
  unfold csN
  omega
