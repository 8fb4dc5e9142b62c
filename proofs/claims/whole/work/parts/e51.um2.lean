theorem m_1g {v : Int32} (h : 0 ≤ v.toInt) : (v + (-1)).toInt = v.toInt - 1 := by
  have := Int32.toInt_lt v
  rw [Int32.toInt_add, show (-1 : Int32).toInt = -1 from rfl, i_bm (by omega) (by omega)]; omega
theorem nd2_go {b n : Nat} {gr gt RE OM : cf_O} (G : GW b n gr) (R : RGq b n gr OM) : ∀ (f1 f2 : Nat) (v3 v1 : Int32) (re om : cf_O) (rc : cf_O × cf_O) (rm : cf_O), Fr (fr_M [] [0, 1] []) RE re → Fr (fr_M [] [48, 49] []) OM om → NdS (b + n) re om → -1 ≤ v1.toInt → v1.toInt < (n : Int) → v3.toInt = (b : Int) + v1.toInt → gRe_begin f1 2 v3 re gr gt = some rc → gM_look f2 2 v1 om = some rm → ∃ (f2' : Nat) (re' om' : cf_O), rc = (re', gt) ∧ Fr (fr_M [] [0, 1] []) RE re' ∧ Fr (fr_M [] [48, 49] []) OM om' ∧ NdS (b + n) re' om' ∧ gM_look f2' 3 0 om' = some rm
  | 0, f2, v3, v1, re, om, rc, rm, fr, fo, N, h0, h1, e3, q1, q2 => by cases q1
  | f1 + 1, 0, v3, v1, re, om, rc, rm, fr, fo, N, h0, h1, e3, q1, q2 => by cases q2
  | f1 + 1, f2 + 1, v3, v1, re, om, rc, rm, fr, fo, N, h0, h1, e3, q1, q2 => by
    have G0 := G.1
    have q1 : fRe_begin_84 (gRe_begin f1) v3 re gr gt = some rc := q1
    have q2 : fM_look_90 (gM_look f2) v1 om = some rm := q2
    rcases bg_84 q1 with ⟨a, er⟩ | ⟨a, q1⟩
    · rcases lk_90 q2 with ⟨_, q2⟩ | ⟨d, _⟩
      · exact ⟨f2, re, om, er, fr, fo, N, q2⟩
      · omega
    · rcases lk_90 q2 with ⟨d, _⟩ | ⟨d, q, hq, q2⟩
      · omega
      have m3 := m_1g (v := v3) (by omega)
      generalize v3 + (-1) = w3 at q1 m3
      have m1 := m_1g (v := v1) (by omega)
      generalize v1 + (-1) = w1 at q2 m1
      have R' : RGq b n gr om := by
        have R0 := R
        unfold RGq at R0 ⊢
        rw [fo.1 43 rfl, fo.1 39 rfl, fo.1 40 rfl, fo.2.1 44 rfl, fo.2.1 45 rfl, fo.2.1 46 rfl, fo.2.1 47 rfl]; exact R0
      have eb := base_sp R' hq
      have i3 : v3.toNatClampNeg = b + v1.toInt.toNat := by have := tn_n v3; omega
      have i1 : v1.toNatClampNeg = v1.toInt.toNat := by have := tn_n v1; omega
      have eqv : (q + v1).toInt = (b : Int) + v1.toInt := by rw [Int32.toInt_add, eb, i_bm (by omega) (by omega)]
      have iq : (q + v1).toNatClampNeg = b + v1.toInt.toNat := by have := tn_n (q + v1); omega
      rw [i3] at q1
      rw [iq, i1] at q2
      have nb := N (b + v1.toInt.toNat) (by omega)
      have gl := R'.2.1 v1.toInt.toNat (by omega)
      have gb := G.2.1 v1.toInt.toNat (by omega)
      rcases q1 with ⟨z1, q1⟩ | ⟨z1, u, w, hu, hw, q1⟩
      · rcases q2 with ⟨_, q2⟩ | ⟨z2, _⟩
        · exact nd2_go G R f1 f2 w3 w1 re om rc rm fr fo N (by omega) (by omega) (by omega) q1 q2
        · rw [nb.1] at z2; exact absurd z1 z2
      · rcases q2 with ⟨z2, _⟩ | ⟨_, q2⟩
        · rw [nb.1] at z2; exact absurd z2 z1
        · have eu := use_sp (by omega) hu
          have ew := use_sp (by omega) hw
          rw [gl.1, gl.2, hf_i (by omega), hf_i (by omega)] at q2
          have lh : (gr.2.1 4 (b + v1.toInt.toNat)).toInt.toNat / 2 < (gr.2.1 5 (b + v1.toInt.toNat)).toInt.toNat / 2 := by omega
          have hb : (gr.2.1 5 (b + v1.toInt.toNat)).toInt.toNat / 2 < b + n := by omega
          generalize (gr.2.1 4 (b + v1.toInt.toNat)).toInt.toNat / 2 = i at eu q2 lh
          generalize (gr.2.1 5 (b + v1.toInt.toNat)).toInt.toNat / 2 = j at ew q2 lh hb
          subst eu
          subst ew
          refine nd2_go G R f1 f2 w3 w1 _ _ rc rm (fr_xp (fr_xp (fr_xp (fr_xp fr rfl) rfl) rfl) rfl) (fr_xp (fr_xp (fr_xp (fr_xp fo rfl) rfl) rfl) rfl) (fun k hk => ?_) (by omega) (by omega) (by omega) q1 q2
          show upd (upd (om.2.1 49) i 1) j 1 k = upd (upd (re.2.1 0) i 1) j 1 k ∧ upd (upd (om.2.1 48) i (om.2.1 48 i + 1)) j (upd (om.2.1 48) i (om.2.1 48 i + 1) j + 1) k = upd (upd (re.2.1 1) i (re.2.1 1 i + 1)) j (upd (re.2.1 1) i (re.2.1 1 i + 1) j + 1) k
          have ni := N i (by omega)
          have nj := N j (by omega)
          have ji : ¬ j = i := by omega
          by_cases ek : k = j
          · rw [ek, up_s, up_s, up_s, up_s, up_o ji, up_o ji, nj.2]; exact ⟨rfl, rfl⟩
          · rw [up_o ek, up_o ek, up_o ek, up_o ek]
            by_cases ei : k = i
            · rw [ei, up_s, up_s, up_s, up_s, ni.2]; exact ⟨rfl, rfl⟩
            · rw [up_o ei, up_o ei, up_o ei, up_o ei]; exact N k hk
