theorem md64_i {x : Int32} (h : 0 ≤ x.toInt) : (x - x / 64 * 64).toInt = x.toInt % 64 := by
  have e : (x / 64).toInt = x.toInt / 64 := i_dv (y := 64) h (by decide)
  have l := Int32.toInt_lt x
  have m : (x / 64 * 64).toInt = x.toInt / 64 * 64 := by rw [Int32.toInt_mul, e, show (64 : Int32).toInt = 64 from rfl, i_bm (by omega) (by omega)]
  rw [Int32.toInt_sub, m, i_bm (by omega) (by omega)]; omega
def ReI (b n i : Nat) (V : Nat → Nat → Bool) (om : cf_O) : Prop := ∀ k w j : Nat, k < b + n → w < 4 → j < 64 → tbq (om.2.2 56 (4 * k + w)) j = (decide (64 * w + j < i) && V k (64 * w + j))
theorem rk_114 {rc : Nat → Int32 → Int32 → Int32 → cf_O → Option cf_O} {v1 v2 v3 s1 : Int32} {s2 : Int64} {om r : cf_O} (h : fM_reckon_114 rc v1 v2 v3 s1 s2 om = some r) : rc 2 v1 v2 (v3 + 1) (yp om 56 s1.toNatClampNeg s2) = some r := by
  unfold fM_reckon_114 at h
  have h := (ifn h).2
  rw [opk, opk] at h
  exact h
theorem dec_i {a i : Nat} (h : ¬ a = i) : decide (a < i + 1) = decide (a < i) := by
  by_cases c : a < i
  · rw [decide_eq_true c, decide_eq_true (show a < i + 1 by omega)]
  · rw [decide_eq_false c, decide_eq_false (show ¬ a < i + 1 by omega)]
theorem rk_go {b n N : Nat} {V : Nat → Nat → Bool} {gr OM : cf_O} {v1 : Int32} (G : GW b n gr) (S : VSq b n gr V) (R0 : RGq b n gr OM) (h38 : OM.1 38 = 1) (eN : N = 2 ^ (b - 1)) (N9 : N ≤ 256) (e1 : v1.toInt = (N : Int)) : ∀ fuel : Nat,
    (∀ (v2 : Int32) (om r : cf_O), Fr (fr_M [0] [75] [56]) OM om → 0 ≤ v2.toInt → v2.toInt ≤ 840 → (∀ k : Nat, (k : Int) < v2.toInt → om.2.2 56 k = 0) → gM_reckon fuel 0 v1 v2 0 om = some r → Fr (fr_M [0] [75] [56]) OM r ∧ ReI b n N V r) ∧
    (∀ (v2 : Int32) (om r : cf_O), Fr (fr_M [0] [75] [56]) OM om → 0 ≤ v2.toInt → v2.toInt ≤ (N : Int) → ReI b n v2.toInt.toNat V om → gM_reckon fuel 1 v1 v2 0 om = some r → Fr (fr_M [0] [75] [56]) OM r ∧ ReI b n N V r) ∧
    (∀ (v2 v3 : Int32) (om r : cf_O), Fr (fr_M [0] [75] [56]) OM om → 0 ≤ v2.toInt → v2.toInt < (N : Int) → 0 ≤ v3.toInt → v3.toInt ≤ ((b + n : Nat) : Int) → (∀ k : Nat, k < b + n → om.2.1 75 k = bI (V k v2.toInt.toNat)) → (∀ k w j : Nat, k < b + n → w < 4 → j < 64 → tbq (om.2.2 56 (4 * k + w)) j = (decide (64 * w + j < v2.toInt.toNat + if (k : Int) < v3.toInt then 1 else 0) && V k (64 * w + j))) → gM_reckon fuel 2 v1 v2 v3 om = some r → Fr (fr_M [0] [75] [56]) OM r ∧ ReI b n N V r)
  | 0 => ⟨fun _ _ _ _ _ _ _ h => (by cases h), fun _ _ _ _ _ _ _ h => (by cases h), fun _ _ _ _ _ _ _ _ _ _ _ h => (by cases h)⟩
  | fuel + 1 => by
    obtain ⟨i0, i1, i2⟩ := rk_go (gr := gr) (OM := OM) G S R0 h38 eN N9 e1 fuel
    have z0 : (0 : Int32).toInt = 0 := rfl
    have G0 := G.1
    have cR : ∀ om : cf_O, Fr (fr_M [0] [75] [56]) OM om → RGq b n gr om := fun om fo => RGq_f R0 (fo.1 39 rfl) (fo.1 40 rfl) (fo.1 43 rfl) (fo.2.1 44 rfl) (fo.2.1 45 rfl) (fo.2.1 46 rfl) (fo.2.1 47 rfl)
    refine ⟨?_, ?_, ?_⟩
    · intro v2 om r fo h0 h1 hz h
      have h : fM_reckon_9 (gM_reckon fuel) v1 v2 om = some r := h
      unfold fM_reckon_9 at h
      rcases ifc h with ⟨a, h⟩ | ⟨a, h⟩
      · have a : 840 ≤ v2.toInt := c_le a
        refine i1 0 om r fo (by decide) (by rw [z0]; omega) (fun k w j hk hw hj => ?_) h
        rw [hz _ (by omega), tb_0, decide_eq_false (by rw [z0]; omega)]; rfl
      · have a : v2.toInt < 840 := c_nle a
        have iv : v2.toNatClampNeg = v2.toInt.toNat := by have := tn_n v2; omega
        have p2 := p_1 (v := v2) h0 (by omega)
        have h := (ifn h).2
        rw [opk, opk, iv] at h
        refine i0 (v2 + 1) (yp om 56 v2.toInt.toNat 0) r (fr_yp fo rfl) (by omega) (by omega) (fun k hk => ?_) h
        show vp_updL (om.2.2 56) v2.toInt.toNat 0 k = 0
        by_cases e : k = v2.toInt.toNat
        · rw [e, up64_s]
        · rw [up64_o e]; exact hz k (by omega)
    · intro v2 om r fo h0 h1 hd h
      have h : fM_reckon_31 (gM_reckon fuel) v1 v2 om = some r := h
      unfold fM_reckon_31 at h
      rcases ifc h with ⟨a, h⟩ | ⟨a, h⟩
      · have a := c_le a
        rw [← Option.some.inj h]
        rw [show v2.toInt.toNat = N from by omega] at hd
        exact ⟨fo, hd⟩
      · have a := c_nle a
        obtain ⟨q, hq, h⟩ := bd h
        obtain ⟨_, w2, w3⟩ := value_sp G S (cR om fo) (by rw [fo.1 38 rfl]; exact h38) h0 (by rw [← eN]; omega) hq
        have w2' : Fr (fr_M [0] [75] [56]) om q.2 := fr_tr (fr_fp fr_rfl rfl) w2 rfl rfl rfl
        have e56 : q.2.2.2 56 = om.2.2 56 := w2.2.2 56 rfl
        refine i2 v2 0 q.2 r (fr_tr fo w2' rfl rfl rfl) h0 (by omega) (by decide) (by rw [z0]; omega) w3 (fun k w j hk hw hj => ?_) h
        rw [e56, if_neg (by rw [z0]; omega), Nat.add_zero]; exact hd k w j hk hw hj
    · intro v2 v3 om r fo h0 h1 h3 h4 hv hd h
      have R := cR om fo
      have n43 := R.1.1
      have h : fM_reckon_44 (gM_reckon fuel) v1 v2 v3 om = some r := h
      unfold fM_reckon_44 at h
      obtain ⟨q, hq, h⟩ := bd h
      have eb := base_sp R hq
      have es : (q + (om.1 43)).toInt = ((b + n : Nat) : Int) := by rw [Int32.toInt_add, eb, n43, i_bm (by omega) (by omega)]; omega
      rw [opk] at h
      have p2 := p_1 (v := v2) h0 (by omega)
      rcases ifc h with ⟨a, h⟩ | ⟨a, h⟩
      · have a := c_le a
        rw [opk] at h
        refine i1 (v2 + 1) om r fo (by omega) (by omega) (fun k w j hk hw hj => ?_) h
        have z := hd k w j hk hw hj
        rw [if_pos (by omega)] at z
        rw [z, show (v2 + 1).toInt.toNat = v2.toInt.toNat + 1 from by omega]
      · have a := c_nle a
        have iv : v3.toNatClampNeg = v3.toInt.toNat := by have := tn_n v3; omega
        have p3 := p_1 (v := v3) h3 (by omega)
        have e64 : (v2 / 64).toInt = v2.toInt / 64 := i_dv (y := 64) h0 (by decide)
        have m4 : (4 * v3).toInt = 4 * v3.toInt := by rw [Int32.toInt_mul, i_bm (by rw [show (4 : Int32).toInt = 4 from rfl]; omega) (by rw [show (4 : Int32).toInt = 4 from rfl]; omega)]; rfl
        have m5 : (4 * v3 + v2 / 64).toInt = 4 * v3.toInt + v2.toInt / 64 := by rw [Int32.toInt_add, m4, e64, i_bm (by omega) (by omega)]
        have mi : (4 * v3 + v2 / 64).toNatClampNeg = 4 * v3.toInt.toNat + v2.toInt.toNat / 64 := by have := tn_n (4 * v3 + v2 / 64); omega
        -- the word is written
        have go : ∀ s : Int64, (∀ j : Nat, j < 64 → tbq s j = (decide (64 * (v2.toInt.toNat / 64) + j < v2.toInt.toNat + 1) && V v3.toInt.toNat (64 * (v2.toInt.toNat / 64) + j))) → gM_reckon fuel 2 v1 v2 (v3 + 1) (yp om 56 (4 * v3 + v2 / 64).toNatClampNeg s) = some r → Fr (fr_M [0] [75] [56]) OM r ∧ ReI b n N V r := fun s hs q => by
          rw [mi] at q
          refine i2 v2 (v3 + 1) (yp om 56 (4 * v3.toInt.toNat + v2.toInt.toNat / 64) s) r (fr_yp fo rfl) h0 h1 (by omega) (by omega) hv (fun k w j hk hw hj => ?_) q
          show tbq (vp_updL (om.2.2 56) (4 * v3.toInt.toNat + v2.toInt.toNat / 64) s (4 * k + w)) j = _
          by_cases ek : k = v3.toInt.toNat
          · rw [ek, if_pos (by omega)]
            by_cases ew : w = v2.toInt.toNat / 64
            · rw [ew, up64_s]; exact hs j hj
            · have z := hd v3.toInt.toNat w j (by omega) hw hj
              rw [if_neg (by omega), Nat.add_zero] at z
              rw [up64_o (by omega), z, dec_i (by omega)]
          · have z := hd k w j hk hw hj
            rw [up64_o (by omega), z]
            by_cases l : (k : Int) < v3.toInt
            · rw [if_pos l, if_pos (by omega)]
            · rw [if_neg l, if_neg (by omega)]
        have old : ∀ j : Nat, j < 64 → tbq (om.2.2 56 (4 * v3.toInt.toNat + v2.toInt.toNat / 64)) j = (decide (64 * (v2.toInt.toNat / 64) + j < v2.toInt.toNat) && V v3.toInt.toNat (64 * (v2.toInt.toNat / 64) + j)) := fun j hj => by
          have z := hd v3.toInt.toNat (v2.toInt.toNat / 64) j (by omega) (by omega) hj
          rw [if_neg (by omega), Nat.add_zero] at z
          exact z
        rw [opk, opk, opk] at h
        have h := (ifn h).2
        rw [opk, iv, hv v3.toInt.toNat (by omega)] at h
        rcases ifc h with ⟨c, h⟩ | ⟨c, h⟩
        · have c := bI_0.mp c
          rw [opk, opk, opk] at h
          have h := (ifn h).2
          rw [opk] at h
          refine go _ (fun j hj => ?_) (rk_114 h)
          rw [mi, old j hj]
          by_cases ei : 64 * (v2.toInt.toNat / 64) + j = v2.toInt.toNat
          · rw [ei, c, Bool.and_false, Bool.and_false]
          · rw [dec_i ei]
        · have c : V v3.toInt.toNat v2.toInt.toNat = true := by
            cases y : V v3.toInt.toNat v2.toInt.toNat with
            | true => rfl
            | false => rw [y] at c; exact absurd rfl c
          rw [opk, opk, opk] at h
          have h := (ifn h).2
          rw [opk, opk, opk, opk] at h
          refine go _ (fun j hj => ?_) (rk_114 h)
          have ms := md64_i h0
          have eo : v2 - v2 / 64 * 64 = Int32.ofNat (v2.toInt.toNat % 64) := by
            rw [of_i (x := v2 - v2 / 64 * 64) (by omega)]; congr 1; omega
          rw [mi, eo, tb_or, old j hj, tb_s _ (by omega) j hj]
          by_cases ei : j = v2.toInt.toNat % 64
          · rw [decide_eq_true ei, Bool.or_true, show 64 * (v2.toInt.toNat / 64) + j = v2.toInt.toNat from by omega, c, decide_eq_true (show v2.toInt.toNat < v2.toInt.toNat + 1 by omega)]; rfl
          · rw [decide_eq_false ei, Bool.or_false, dec_i (by omega)]
theorem reckon_sp {b n : Nat} {V : Nat → Nat → Bool} {gr om r : cf_O} (G : GW b n gr) (S : VSq b n gr V) (R : RGq b n gr om) (h38 : om.1 38 = 1) (h : fM_reckon om = some r) : Fr (fr_M [0] [75] [56]) om r ∧ ReI b n (2 ^ (b - 1)) V r := by
  have G0 := G.1
  have p2 : 2 ^ (b - 1) ≤ 256 := Nat.le_trans (Nat.pow_le_pow_right (by decide) (show b - 1 ≤ 8 by omega)) (by decide)
  unfold fM_reckon fM_reckon_0 at h
  rw [opk] at h
  exact (rk_go (OM := om) G S R h38 rfl p2 (rows_i R) cfFU).1 0 om r fr_rfl (by decide) (by decide) (fun k hk => absurd hk (by rw [show (0 : Int32).toInt = 0 from rfl]; omega)) h
