def GW (b n : Nat) (gr : cf_O) : Prop := ((gr.1 0).toInt + 1 = (b : Int) ∧ (gr.1 2).toInt = (n : Int) ∧ n ≤ 200 ∧ 1 ≤ b ∧ b ≤ 9 ∧ 0 ≤ (gr.1 1).toInt ∧ (gr.1 1).toInt ≤ 6) ∧ (∀ g : Nat, g < n → 2 ≤ (gr.2.1 4 (b + g)).toInt ∧ (gr.2.1 4 (b + g)).toInt / 2 < (gr.2.1 5 (b + g)).toInt / 2 ∧ (gr.2.1 5 (b + g)).toInt / 2 < ((b + g : Nat) : Int)) ∧ ∀ k : Nat, (k : Int) < (gr.1 1).toInt → 0 ≤ (gr.2.1 7 k).toInt ∧ (gr.2.1 7 k).toInt < 2 * ((b + n : Nat) : Int)
theorem size_sp {b n : Nat} {gr : cf_O} {q : Int32} (G : GW b n gr) (h : fGr_size gr = some q) : q.toInt = ((b + n : Nat) : Int) := by
  obtain ⟨⟨g0, g2, gn, b1, b9, _⟩, _⟩ := G
  unfold fGr_size fGr_size_0 at h
  rw [opk, opk] at h
  have e : q = (1 + (gr.1 0)) + (gr.1 2) := (Option.some.inj h).symm
  have e1 : (1 + (gr.1 0)).toInt = 1 + (gr.1 0).toInt := by rw [Int32.toInt_add, show (1 : Int32).toInt = 1 from rfl, i_bm (by omega) (by omega)]
  rw [e, Int32.toInt_add, e1, i_bm (by omega) (by omega)]
  omega
theorem base_sp {b n : Nat} {gr om : cf_O} {q : Int32} (R : RGq b n gr om) (h : fM_base om = some q) : q.toInt = (b : Int) := by
  obtain ⟨⟨_, _, e39, e0, _, _, b1, b9⟩, _⟩ := R
  unfold fM_base fM_base_0 at h
  rw [opk] at h
  have e : q = (om.1 39) + 1 := (Option.some.inj h).symm
  rw [e, e39, p_1 (by omega) (by omega)]; exact e0
theorem use_sp {v : Int32} {re r : cf_O} (h0 : 0 ≤ v.toInt) (h : fRe_use v re = some r) : r = xp (xp re 0 (v.toInt.toNat / 2) 1) 1 (v.toInt.toNat / 2) (re.2.1 1 (v.toInt.toNat / 2) + 1) := by
  unfold fRe_use fRe_use_0 at h
  rw [opk] at h
  have h := (ifn h).2
  rw [opk, opk] at h
  have h := (ifn h).2
  rw [opk, opk] at h
  have h := (ifn h).2
  rw [opk, vb_1, sr_i h0] at h
  exact (Option.some.inj h).symm
def NdS (N : Nat) (re om : cf_O) : Prop := ∀ k : Nat, k < N → om.2.1 49 k = re.2.1 0 k ∧ om.2.1 48 k = re.2.1 1 k
theorem NdS_u {N i : Nat} {re om : cf_O} (h : NdS N re om) (hi : i < N) : NdS N (xp (xp re 0 i 1) 1 i (re.2.1 1 i + 1)) (xp (xp om 49 i 1) 48 i (om.2.1 48 i + 1)) := fun k hk => by
  show upd (om.2.1 49) i 1 k = upd (re.2.1 0) i 1 k ∧ upd (om.2.1 48) i (om.2.1 48 i + 1) k = upd (re.2.1 1) i (re.2.1 1 i + 1) k
  by_cases e : k = i
  · rw [e, up_s, up_s, up_s, up_s, (h i hi).2]; exact ⟨rfl, rfl⟩
  · rw [up_o e, up_o e, up_o e, up_o e]; exact h k hk
theorem bgn0_go {b n : Nat} {gr gt RE : cf_O} (G : GW b n gr) : ∀ (fuel : Nat) (v3 : Int32) (re : cf_O) (rc : cf_O × cf_O), Fr (fr_M [] [0, 1, 4] []) RE re → 0 ≤ v3.toInt → v3.toInt ≤ ((b + n : Nat) : Int) → (∀ k : Nat, (k : Int) < v3.toInt → re.2.1 0 k = 0 ∧ re.2.1 1 k = 0 ∧ (re.2.1 4 k).toInt = 2 * (k : Int)) → gRe_begin fuel 0 v3 re gr gt = some rc → ∃ (f : Nat) (re' : cf_O), Fr (fr_M [] [0, 1, 4] []) RE re' ∧ (∀ k : Nat, k < b + n → re'.2.1 0 k = 0 ∧ re'.2.1 1 k = 0 ∧ (re'.2.1 4 k).toInt = 2 * (k : Int)) ∧ gRe_begin f 1 0 re' gr gt = some rc
  | 0, v3, re, rc, fr, h0, h1, hz, h => by cases h
  | fuel + 1, v3, re, rc, fr, h0, h1, hz, h => by
    have G0 := G.1
    have h : fRe_begin_14 (gRe_begin fuel) v3 re gr gt = some rc := h
    unfold fRe_begin_14 at h
    obtain ⟨q, hq, h⟩ := bd h
    have eq := size_sp G hq
    rcases ifc h with ⟨a, h⟩ | ⟨a, h⟩
    · have a := c_le a
      exact ⟨fuel, re, fr, fun k hk => hz k (by omega), h⟩
    · have a := c_nle a
      have vi : v3.toNatClampNeg = v3.toInt.toNat := by have := tn_n v3; omega
      have e3 := p_1 (v := v3) h0 (by omega)
      have m2 : (2 * v3).toInt = 2 * v3.toInt := by rw [Int32.toInt_mul, i_bm (by rw [show (2 : Int32).toInt = 2 from rfl]; omega) (by rw [show (2 : Int32).toInt = 2 from rfl]; omega)]; rfl
      have h := (ifn h).2
      rw [opk] at h
      have h := (ifn h).2
      rw [opk, opk] at h
      have h := (ifn h).2
      rw [opk, opk, vi, vb_0] at h
      refine bgn0_go G fuel (v3 + 1) (xp (xp (xp re 0 v3.toInt.toNat 0) 1 v3.toInt.toNat 0) 4 v3.toInt.toNat (2 * v3)) rc (fr_xp (fr_xp (fr_xp fr rfl) rfl) rfl) (by omega) (by omega) (fun k hk => ?_) h
      show upd (re.2.1 0) v3.toInt.toNat 0 k = 0 ∧ upd (re.2.1 1) v3.toInt.toNat 0 k = 0 ∧ (upd (re.2.1 4) v3.toInt.toNat (2 * v3) k).toInt = 2 * (k : Int)
      by_cases e : k = v3.toInt.toNat
      · rw [e, up_s, up_s, up_s]; exact ⟨rfl, rfl, by omega⟩
      · rw [up_o e, up_o e, up_o e]; exact hz k (by omega)
theorem look0_go {OM : cf_O} : ∀ (fuel : Nat) (v1 : Int32) (om rm : cf_O), Fr (fr_M [] [48, 49, 50] []) OM om → 0 ≤ v1.toInt → v1.toInt ≤ 210 → (∀ k : Nat, (k : Int) < v1.toInt → om.2.1 49 k = 0 ∧ om.2.1 48 k = 0 ∧ om.2.1 50 k = 0) → gM_look fuel 0 v1 om = some rm → ∃ (f : Nat) (om' : cf_O), Fr (fr_M [] [48, 49, 50] []) OM om' ∧ (∀ k : Nat, k < 210 → om'.2.1 49 k = 0 ∧ om'.2.1 48 k = 0 ∧ om'.2.1 50 k = 0) ∧ gM_look f 1 0 om' = some rm
  | 0, v1, om, rm, fr, h0, h1, hz, h => by cases h
  | fuel + 1, v1, om, rm, fr, h0, h1, hz, h => by
    rcases ifc h with ⟨a, h⟩ | ⟨a, h⟩
    · have a : 210 ≤ v1.toInt := c_le a
      exact ⟨fuel, om, fr, fun k hk => hz k (by omega), h⟩
    · have a : v1.toInt < 210 := c_nle a
      have vi : v1.toNatClampNeg = v1.toInt.toNat := by have := tn_n v1; omega
      have e3 := p_1 (v := v1) h0 (by omega)
      have h := (ifn h).2
      rw [opk] at h
      have h := (ifn h).2
      rw [opk] at h
      have h := (ifn h).2
      rw [opk, opk, vi, vb_0] at h
      refine look0_go fuel (v1 + 1) (xp (xp (xp om 49 v1.toInt.toNat 0) 48 v1.toInt.toNat 0) 50 v1.toInt.toNat 0) rm (fr_xp (fr_xp (fr_xp fr rfl) rfl) rfl) (by omega) (by omega) (fun k hk => ?_) h
      show upd (om.2.1 49) v1.toInt.toNat 0 k = 0 ∧ upd (om.2.1 48) v1.toInt.toNat 0 k = 0 ∧ upd (om.2.1 50) v1.toInt.toNat 0 k = 0
      by_cases e : k = v1.toInt.toNat
      · rw [e, up_s, up_s, up_s]; exact ⟨rfl, rfl, rfl⟩
      · rw [up_o e, up_o e, up_o e]; exact hz k (by omega)
theorem nd1_go {b n : Nat} {gr gt RE OM : cf_O} (G : GW b n gr) (R : RGq b n gr OM) : ∀ (f1 f2 : Nat) (v : Int32) (re om : cf_O) (rc : cf_O × cf_O) (rm : cf_O), Fr (fr_M [] [0, 1] []) RE re → Fr (fr_M [] [48, 49] []) OM om → NdS (b + n) re om → 0 ≤ v.toInt → v.toInt ≤ (gr.1 1).toInt → gRe_begin f1 1 v re gr gt = some rc → gM_look f2 1 v om = some rm → ∃ (f1' f2' : Nat) (v3 v1 : Int32) (re' om' : cf_O), Fr (fr_M [] [0, 1] []) RE re' ∧ Fr (fr_M [] [48, 49] []) OM om' ∧ NdS (b + n) re' om' ∧ v1.toInt = (n : Int) - 1 ∧ v3.toInt = (b : Int) + v1.toInt ∧ gRe_begin f1' 2 v3 re' gr gt = some rc ∧ gM_look f2' 2 v1 om' = some rm
  | 0, f2, v, re, om, rc, rm, fr, fo, N, h0, h1, q1, q2 => by cases q1
  | f1 + 1, 0, v, re, om, rc, rm, fr, fo, N, h0, h1, q1, q2 => by cases q2
  | f1 + 1, f2 + 1, v, re, om, rc, rm, fr, fo, N, h0, h1, q1, q2 => by
    have G0 := G.1
    have e40 : om.1 40 = gr.1 1 := by rw [fo.1 40 rfl]; exact R.1.2.2.2.2.1
    have e43 : om.1 43 = OM.1 43 := fo.1 43 rfl
    have n43 := R.1.1
    rcases ifc q1 with ⟨a, q1⟩ | ⟨a, q1⟩
    · have a := c_le a
      rcases ifc q2 with ⟨_, q2⟩ | ⟨d, _⟩
      · obtain ⟨s, hs, q1⟩ := bd q1
        have es := size_sp G hs
        rw [opk] at q1 q2
        refine ⟨f1, f2, s - 1, (om.1 43) - 1, re, om, fr, fo, N, ?_, ?_, q1, q2⟩
        · rw [e43, Int32.toInt_sub, n43, show (1 : Int32).toInt = 1 from rfl, i_bm (by omega) (by omega)]
        · rw [e43, Int32.toInt_sub, Int32.toInt_sub, n43, es, show (1 : Int32).toInt = 1 from rfl, i_bm (by omega) (by omega), i_bm (by omega) (by omega)]; omega
      · have d := c_nle d; rw [e40] at d; omega
    · have a := c_nle a
      rcases ifc q2 with ⟨d, _⟩ | ⟨_, q2⟩
      · have d := c_le d; rw [e40] at d; omega
      have vi : v.toNatClampNeg = v.toInt.toNat := by have := tn_n v; omega
      have e3 := p_1 (v := v) h0 (by omega)
      have e47 : om.2.1 47 v.toInt.toNat = gr.2.1 7 v.toInt.toNat := by rw [fo.2.1 47 rfl]; exact R.2.2.2.1 _ (by omega)
      have ob := G.2.2 v.toInt.toNat (by omega)
      have q1 := (ifn q1).2
      rw [opk, vi] at q1
      obtain ⟨u, hu, q1⟩ := bd q1
      have eu := use_sp ob.1 hu
      rw [opk] at q1
      have q2 := (ifn q2).2
      rw [opk, opk] at q2
      have q2 := (ifn q2).2
      rw [opk] at q2
      have q2 := (ifn q2).2
      rw [opk, opk] at q2
      have q2 := (ifn q2).2
      rw [opk, opk] at q2
      have q2 := (ifn q2).2
      rw [opk, opk, vi, vb_1] at q2
      have q2 : gM_look f2 1 (v + 1) (xp (xp om 49 (om.2.1 47 v.toInt.toNat / 2).toNatClampNeg 1) 48 (om.2.1 47 v.toInt.toNat / 2).toNatClampNeg (om.2.1 48 (om.2.1 47 v.toInt.toNat / 2).toNatClampNeg + 1)) = some rm := q2
      rw [e47, hf_i ob.1] at q2
      subst eu
      exact nd1_go G R f1 f2 (v + 1) _ _ rc rm (fr_xp (fr_xp fr rfl) rfl) (fr_xp (fr_xp fo rfl) rfl) (NdS_u N (by omega)) (by omega) (by omega) q1 q2
