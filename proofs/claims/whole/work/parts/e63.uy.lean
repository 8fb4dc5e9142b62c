theorem word_sp {b n : Nat} {x w : Int32} {fu : cf_O} {q : Int64} (x0 : 0 ≤ x.toInt) (x1 : x.toInt < 2 * ((b + n : Nat) : Int)) (bn : b + n ≤ 209) (w0 : 0 ≤ w.toInt) (w4 : w.toInt < 4) (h : fFu_word x w fu = some q) : q = fu.2.2 1 (4 * (x.toInt.toNat / 2) + w.toInt.toNat) ^^^ -((x &&& 1).toInt64) := by
  unfold fFu_word fFu_word_0 at h
  rw [opk, opk, opk] at h
  have e1 := i_s1 x0
  have m4 : (x >>> ((1 : Int32) &&& 31) * 4).toInt = 4 * (x.toInt / 2) := by rw [Int32.toInt_mul, e1, show (4 : Int32).toInt = 4 from rfl, i_bm (by omega) (by omega)]; omega
  have m5 : (x >>> ((1 : Int32) &&& 31) * 4 + w).toInt = 4 * (x.toInt / 2) + w.toInt := by rw [Int32.toInt_add, m4, i_bm (by omega) (by omega)]
  have mi : (x >>> ((1 : Int32) &&& 31) * 4 + w).toNatClampNeg = 4 * (x.toInt.toNat / 2) + w.toInt.toNat := by have := tn_n (x >>> ((1 : Int32) &&& 31) * 4 + w); omega
  have h := (ifn h).2
  rw [opk, opk, opk, opk, opk, mi] at h
  exact (Option.some.inj h).symm
theorem inw_sp {k w : Int32} {q : Int64} (k0 : 0 ≤ k.toInt) (k8 : k.toInt < 8) (w0 : 0 ≤ w.toInt) (w4 : w.toInt < 4) (h : fFu_inputWord k w = some q) : ∀ j : Nat, j < 64 → tbq q j = (64 * w.toInt.toNat + j).testBit k.toInt.toNat := by
  intro j hj
  unfold fFu_inputWord fFu_inputWord_0 at h
  rcases ifc h with ⟨a, h⟩ | ⟨a, h⟩
  · have a : 6 ≤ k.toInt := c_le a
    rw [opk, opk, opk, opk, opk] at h
    have e6 : (k - 6).toInt = k.toInt - 6 := i_sub' k0 (by omega) (by decide) (by decide)
    have z := tb_w (k.toInt.toNat - 6) (by omega) w.toInt.toNat (by omega) j hj
    have ek : Int32.ofNat (k.toInt.toNat - 6) = k - 6 := by
      rw [of_i (x := k - 6) (by omega)]; congr 1; omega
    have ew : Int32.ofNat w.toInt.toNat = w := (of_i w0).symm
    rw [ek, ew] at z
    rw [← Option.some.inj h, z]
    congr 1; omega
  · have a : k.toInt < 6 := c_nle a
    have h := (ifn h).2
    rw [opk] at h
    have ik : k.toNatClampNeg = k.toInt.toNat := by have := tn_n k; omega
    rw [← Option.some.inj h, ik, tb_p _ (by omega) j hj]
    exact tb_lo _ (by omega) _ (by omega) j hj
def FuB (b n : Nat) (V : Nat → Nat → Bool) (fu : cf_O) : Prop := ∀ k w j : Nat, k < b + n → w < 4 → j < 64 → tbq (fu.2.2 1 (4 * k + w)) j = V k (64 * w + j)
theorem up64_s (f : Nat → Int64) (i : Nat) (v : Int64) : vp_updL f i v i = v := by unfold vp_updL; exact if_pos rfl
theorem up64_o {f : Nat → Int64} {i j : Nat} {v : Int64} (h : ¬ j = i) : vp_updL f i v j = f j := by unfold vp_updL; exact if_neg h
theorem fuf_go {b n : Nat} {gr FU : cf_O} {V : Nat → Nat → Bool} (G : GW b n gr) (S : VSq b n gr V) : ∀ fuel : Nat,
    (∀ (w : Int32) (fu r : cf_O), Fr (fr_M [0] [] [1]) FU fu → 0 ≤ w.toInt → w.toInt ≤ 4 → (∀ u : Nat, u < 4 → fu.2.2 1 u = 0) → (∀ k u j : Nat, k < b + n → (u : Int) < w.toInt → j < 64 → tbq (fu.2.2 1 (4 * k + u)) j = V k (64 * u + j)) → gFu_find fuel 0 w 0 fu gr = some r → Fr (fr_M [0] [] [1]) FU r ∧ r.1 0 = 1 ∧ (∀ u : Nat, u < 4 → r.2.2 1 u = 0) ∧ FuB b n V r) ∧
    (∀ (w v : Int32) (fu r : cf_O), Fr (fr_M [0] [] [1]) FU fu → 0 ≤ w.toInt → w.toInt < 4 → 0 ≤ v.toInt → v.toInt + 1 ≤ (b : Int) → (∀ u : Nat, u < 4 → fu.2.2 1 u = 0) → (∀ k u j : Nat, k < b + n → (u : Int) < w.toInt → j < 64 → tbq (fu.2.2 1 (4 * k + u)) j = V k (64 * u + j)) → (∀ k j : Nat, (k : Int) ≤ v.toInt → j < 64 → tbq (fu.2.2 1 (4 * k + w.toInt.toNat)) j = V k (64 * w.toInt.toNat + j)) → gFu_find fuel 1 w v fu gr = some r → Fr (fr_M [0] [] [1]) FU r ∧ r.1 0 = 1 ∧ (∀ u : Nat, u < 4 → r.2.2 1 u = 0) ∧ FuB b n V r) ∧
    (∀ (w v : Int32) (fu r : cf_O), Fr (fr_M [0] [] [1]) FU fu → 0 ≤ w.toInt → w.toInt < 4 → (b : Int) ≤ v.toInt → v.toInt ≤ ((b + n : Nat) : Int) → (∀ u : Nat, u < 4 → fu.2.2 1 u = 0) → (∀ k u j : Nat, k < b + n → (u : Int) < w.toInt → j < 64 → tbq (fu.2.2 1 (4 * k + u)) j = V k (64 * u + j)) → (∀ k j : Nat, (k : Int) < v.toInt → j < 64 → tbq (fu.2.2 1 (4 * k + w.toInt.toNat)) j = V k (64 * w.toInt.toNat + j)) → gFu_find fuel 2 w v fu gr = some r → Fr (fr_M [0] [] [1]) FU r ∧ r.1 0 = 1 ∧ (∀ u : Nat, u < 4 → r.2.2 1 u = 0) ∧ FuB b n V r)
  | 0 => ⟨fun _ _ _ _ _ _ _ _ h => (by cases h), fun _ _ _ _ _ _ _ _ _ _ _ _ h => (by cases h), fun _ _ _ _ _ _ _ _ _ _ _ _ h => (by cases h)⟩
  | fuel + 1 => by
    obtain ⟨i0, i1, i2⟩ := fuf_go (FU := FU) G S fuel
    have z0 : (0 : Int32).toInt = 0 := rfl
    have G0 := G.1
    obtain ⟨S1, S2, S3⟩ := S
    refine ⟨?_, ?_, ?_⟩
    · intro w fu r fr w0 w4 hz hd h
      have h : fFu_find_10 (gFu_find fuel) w fu gr = some r := h
      unfold fFu_find_10 at h
      rcases ifc h with ⟨a, h⟩ | ⟨a, h⟩
      · have a : 4 ≤ w.toInt := c_le a
        rw [opk] at h
        rw [← Option.some.inj h]
        exact ⟨fr_fp fr rfl, rfl, hz, fun k u j hk hu hj => hd k u j hk (by omega) hj⟩
      · have a : w.toInt < 4 := c_nle a
        refine i1 w 0 fu r fr w0 a (by decide) (by rw [z0]; omega) hz hd (fun k j hk hj => ?_) h
        rw [z0] at hk
        rw [show k = 0 from by omega, show 4 * 0 + w.toInt.toNat = w.toInt.toNat from by omega, hz _ (by omega), S1]; exact tb_0
    · intro w v fu r fr w0 w4 v0 v1 hz hd hk h
      have h : fFu_find_17 (gFu_find fuel) w v fu gr = some r := h
      unfold fFu_find_17 at h
      rcases ifc h with ⟨a, h⟩ | ⟨a, h⟩
      · have a := c_le a
        rw [opk] at h
        have e1 : ((gr.1 0) + 1).toInt = (b : Int) := by rw [p_1 (by omega) (by omega)]; omega
        exact i2 w ((gr.1 0) + 1) fu r fr w0 w4 (by omega) (by omega) hz hd (fun k j k1 hj => hk k j (by omega) hj) h
      · have a := c_nle a
        have e1 := p_1 (v := v) v0 (by omega)
        rw [opk, opk, opk] at h
        obtain ⟨q, hq, h⟩ := bd h
        have iw := inw_sp v0 (by omega) w0 w4 hq
        have m4 : ((v + 1) * 4).toInt = 4 * (v.toInt + 1) := by rw [Int32.toInt_mul, e1, show (4 : Int32).toInt = 4 from rfl, i_bm (by omega) (by omega)]; omega
        have m5 : ((v + 1) * 4 + w).toInt = 4 * (v.toInt + 1) + w.toInt := by rw [Int32.toInt_add, m4, i_bm (by omega) (by omega)]
        have mi : ((v + 1) * 4 + w).toNatClampNeg = 4 * (v.toInt.toNat + 1) + w.toInt.toNat := by have := tn_n ((v + 1) * 4 + w); omega
        have h := (ifn h).2
        rw [opk, opk, mi] at h
        refine i1 w (v + 1) (yp fu 1 (4 * (v.toInt.toNat + 1) + w.toInt.toNat) q) r (fr_yp fr rfl) w0 w4 (by omega) (by omega) (fun u hu => ?_) (fun k u j k1 hu hj => ?_) (fun k j k1 hj => ?_) h
        · show vp_updL (fu.2.2 1) (4 * (v.toInt.toNat + 1) + w.toInt.toNat) q u = 0
          rw [up64_o (by omega)]; exact hz u hu
        · show tbq (vp_updL (fu.2.2 1) (4 * (v.toInt.toNat + 1) + w.toInt.toNat) q (4 * k + u)) j = _
          rw [up64_o (by omega)]; exact hd k u j k1 hu hj
        · show tbq (vp_updL (fu.2.2 1) (4 * (v.toInt.toNat + 1) + w.toInt.toNat) q (4 * k + w.toInt.toNat)) j = _
          by_cases e : k = v.toInt.toNat + 1
          · rw [e, up64_s, iw j hj, S2 _ _ (by omega) (by omega)]; rfl
          · rw [up64_o (by omega)]; exact hk k j (by omega) hj
    · intro w v fu r fr w0 w4 v0 v1 hz hd hk h
      have h : fFu_find_55 (gFu_find fuel) w v fu gr = some r := h
      unfold fFu_find_55 at h
      obtain ⟨s, hs, h⟩ := bd h
      have es := size_sp G hs
      rcases ifc h with ⟨a, h⟩ | ⟨a, h⟩
      · have a := c_le a
        rw [opk] at h
        have e1 := p_1 (v := w) w0 (by omega)
        refine i0 (w + 1) fu r fr (by omega) (by omega) hz (fun k u j k1 hu hj => ?_) h
        by_cases e : (u : Int) = w.toInt
        · rw [show u = w.toInt.toNat from by omega]; exact hk k j (by omega) hj
        · exact hd k u j k1 (by omega) hj
      · have a := c_nle a
        have e1 := p_1 (v := v) (by omega) (by omega)
        have iv : v.toNatClampNeg = v.toInt.toNat := by have := tn_n v; omega
        obtain ⟨g, hg⟩ : ∃ g : Nat, v.toInt.toNat = b + g := ⟨v.toInt.toNat - b, by omega⟩
        have gg := G.2.1 g (by omega)
        rw [opk, opk] at h
        have h := (ifn h).2
        rw [opk, iv, hg] at h
        obtain ⟨x, hx, h⟩ := bd h
        have h := (ifn h).2
        rw [opk] at h
        obtain ⟨y, hy, h⟩ := bd h
        rw [opk] at h
        have m4 : (v * 4).toInt = 4 * v.toInt := by rw [Int32.toInt_mul, show (4 : Int32).toInt = 4 from rfl, i_bm (by omega) (by omega)]; omega
        have m5 : (v * 4 + w).toInt = 4 * v.toInt + w.toInt := by rw [Int32.toInt_add, m4, i_bm (by omega) (by omega)]
        have mi : (v * 4 + w).toNatClampNeg = 4 * (b + g) + w.toInt.toNat := by have := tn_n (v * 4 + w); omega
        have h := (ifn h).2
        rw [opk, opk, mi] at h
        have ex := word_sp (b := b) (n := n) (by omega) (by omega) (by omega) w0 w4 hx
        have ey := word_sp (b := b) (n := n) (by omega) (by omega) (by omega) w0 w4 hy
        have vx : ∀ j : Nat, j < 64 → tbq x j = lvq V (gr.2.1 4 (b + g)) (64 * w.toInt.toNat + j) := fun j hj => by
          rw [ex, tb_xor, tb_n (by omega) hj, hk _ j (by omega) hj]; rfl
        have vy : ∀ j : Nat, j < 64 → tbq y j = lvq V (gr.2.1 5 (b + g)) (64 * w.toInt.toNat + j) := fun j hj => by
          rw [ey, tb_xor, tb_n (by omega) hj, hk _ j (by omega) hj]; rfl
        refine i2 w (v + 1) (yp fu 1 (4 * (b + g) + w.toInt.toNat) (x &&& y)) r (fr_yp fr rfl) w0 w4 (by omega) (by omega) (fun u hu => ?_) (fun k u j k1 hu hj => ?_) (fun k j k1 hj => ?_) h
        · show vp_updL (fu.2.2 1) (4 * (b + g) + w.toInt.toNat) (x &&& y) u = 0
          rw [up64_o (by omega)]; exact hz u hu
        · show tbq (vp_updL (fu.2.2 1) (4 * (b + g) + w.toInt.toNat) (x &&& y) (4 * k + u)) j = _
          rw [up64_o (by omega)]; exact hd k u j k1 hu hj
        · show tbq (vp_updL (fu.2.2 1) (4 * (b + g) + w.toInt.toNat) (x &&& y) (4 * k + w.toInt.toNat)) j = _
          by_cases e : k = b + g
          · rw [e, up64_s, tb_and, vx j hj, vy j hj]; exact (S3 g _ (by omega)).symm
          · rw [up64_o (by omega)]; exact hk k j (by omega) hj
def FuI (fu gr : cf_O) : Prop := (∀ u : Nat, u < 4 → fu.2.2 1 u = 0) ∧ (¬ fu.1 0 = 0 → ∀ (b n : Nat) (V : Nat → Nat → Bool), GW b n gr → VSq b n gr V → FuB b n V fu)
theorem fuf_sp {b n : Nat} {gr fu r : cf_O} {V : Nat → Nat → Bool} (G : GW b n gr) (S : VSq b n gr V) (I : FuI fu gr) (h : fFu_find fu gr = some r) : Fr (fr_M [0] [] [1]) fu r ∧ ¬ r.1 0 = 0 ∧ (∀ u : Nat, u < 4 → r.2.2 1 u = 0) ∧ FuB b n V r := by
  unfold fFu_find fFu_find_0 at h
  rcases ifc h with ⟨a, h⟩ | ⟨a, h⟩
  · obtain ⟨q1, q2, q3, q4⟩ := (fuf_go (FU := fu) G S cfFU).1 0 fu r fr_rfl (by decide) (by decide) I.1 (fun k u j _ hu => absurd hu (by rw [show (0 : Int32).toInt = 0 from rfl]; omega)) h
    exact ⟨q1, by rw [q2]; decide, q3, q4⟩
  · rw [← Option.some.inj h]
    exact ⟨fr_rfl, a, I.1, I.2 a b n V G S⟩
