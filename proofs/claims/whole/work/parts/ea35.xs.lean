theorem sgn_c {v : Int32} {sc sb om : cf_O} {r : Int32} (T : TwS sb om) (h0 : 0 ≤ v.toInt) (h : fSc_signAt v sc sb = some r) : ((om.1 76).toInt ≤ v.toInt ∧ r = -1) ∨ (v.toInt < (om.1 76).toInt ∧ om.2.1 77 v.toInt.toNat = r) := by
  obtain ⟨L, S, R, A, _⟩ := T
  rcases sgn_sp S A h0 h with ⟨z1, z2⟩ | ⟨z1, z2⟩
  · exact Or.inl ⟨by rw [R.2.1.1]; exact z1, z2⟩
  · exact Or.inr ⟨by rw [R.2.1.1]; exact z1, R.2.2 _ _ z2⟩
def ScI (F sc sb om : cf_O) : Prop := (∃ L : List Int32, SbQ sb L) ∧ (F.1 17 = 1 → sc.1 0 = 0 ∨ TwS sb om)
theorem eq_sign {v1 : Int32} {o0 cv sc nl gr sb om : cf_O} {r : Int32 × cf_O × cf_O × cf_O} {rm : Int32 × cf_O} (hG : o0.1 17 = 1 → ∃ b n : Nat, GW b n gr ∧ RGq b n gr om) (hI : CvI o0 gr cv om) (hN : o0.1 17 = 1 → NaI nl gr om) (W : W4 (om.2.2 4)) (h95 : om.1 95 = 0) (hS : ScI o0 sc sb om) (h1 : fF_sign v1 o0 cv sc nl gr sb = some r) (h2 : fM_sign v1 om = some rm) : AnsC [(2, 1), (3, 2)] r.2.1 r.1 rm ∧ (∃ k : Int32, rm.2 = fp om 0 k) ∧ ScI r.2.1 r.2.2.1 r.2.2.2 rm.2 ∧ r.2.1.1 17 = o0.1 17 := by
  unfold fF_sign fF_sign_0 at h1
  unfold fM_sign fM_sign_0 at h2
  rcases ifc h1 with ⟨a, h1⟩ | ⟨a, h1⟩
  · have a2 := hI.1.symm.trans a
    rw [if_pos a2] at h2
    unfold fM_sign_13 fM_sign_28 fM_sign_29 at h2
    rw [if_pos a2, refuse_1, Option.bind_some, if_neg (show ¬ ((1 : Int32), fp om 0 1).1 = 0 by show ¬ (1 : Int32) = 0; decide)] at h2
    rw [← Option.some.inj h1, ← Option.some.inj h2]
    exact ⟨Or.inr ⟨(2, 1), by decide, rfl, rfl⟩, ⟨1, rfl⟩, ⟨hS.1, fun z => (hS.2 z).imp id (fun t => TwS_f t rfl rfl rfl)⟩, rfl⟩
  · obtain ⟨a1, b0, n0, M, e1, e2, e3, C1, C2, C3⟩ := hI.2.resolve_left a
    obtain ⟨b, n, G, R⟩ := hG a1
    have N := hN a1
    have G0 := G.1
    have eb : b0 = b := by omega
    have en : n0 = n := by omega
    subst eb; subst en
    have a2 : ¬ om.1 64 = 0 := by rw [← hI.1, a1]; decide
    rw [if_neg a2] at h2
    unfold fM_sign_13 fM_sign_28 fM_sign_29 at h2
    rw [if_neg a2] at h2
    unfold fF_sign_7 at h1
    by_cases c : v1 < 0
    · rw [if_pos c] at h1
      unfold fF_sign_16 at h1
      rw [if_pos rfl] at h1
      have c := Int32.lt_iff_toInt_lt.mp c
      rw [if_neg (fun z => by have := c_le z; omega), refuse_01, Option.bind_some, if_neg (show ¬ ((1 : Int32), fp om 0 2).1 = 0 by show ¬ (1 : Int32) = 0; decide)] at h2
      rw [← Option.some.inj h1, ← Option.some.inj h2]
      exact ⟨Or.inr ⟨(3, 2), by decide, rfl, rfl⟩, ⟨2, rfl⟩, ⟨hS.1, fun z => (hS.2 z).imp id (fun t => TwS_f t rfl rfl rfl)⟩, rfl⟩
    · rw [if_neg c] at h1
      have c : ¬ v1.toInt < (0 : Int32).toInt := fun z => c (Int32.lt_iff_toInt_lt.mpr z)
      rw [show (0 : Int32).toInt = 0 from rfl] at c
      unfold fF_sign_16 at h1
      rw [if_neg (by decide)] at h1
      rw [if_pos (Int32.le_iff_toInt_le.mpr (by rw [show (0 : Int32).toInt = 0 from rfl]; omega)), refuse_00, Option.bind_some, if_pos (show ((0 : Int32), fp om 0 0).1 = 0 from rfl)] at h2
      have iv : v1.toNatClampNeg = v1.toInt.toNat := by have := tn_n v1; omega
      have m2 : ((om.1 76).toInt ≤ v1.toInt ∧ rm = (-1, fp om 0 0)) ∨ (v1.toInt < (om.1 76).toInt ∧ rm = (om.2.1 77 v1.toInt.toNat, fp om 0 0)) := by
        unfold fM_sign_56 at h2
        rcases ifc h2 with ⟨d, h2⟩ | ⟨d, h2⟩
        · exact Or.inl ⟨c_le d, (Option.some.inj h2).symm⟩
        · have h2 := (ifn h2).2
          rw [opk, iv] at h2
          exact Or.inr ⟨c_nle d, (Option.some.inj h2).symm⟩
      have fin : ∀ s2 b2 : cf_O, TwS b2 om → fF_sign_48 v1 o0 cv s2 nl gr b2 = some r → AnsC [(2, 1), (3, 2)] r.2.1 r.1 rm ∧ (∃ k : Int32, rm.2 = fp om 0 k) ∧ ScI r.2.1 r.2.2.1 r.2.2.2 rm.2 ∧ r.2.1.1 17 = o0.1 17 := fun s2 b2 T z => by
        unfold fF_sign_48 at z
        obtain ⟨q, hq, z⟩ := bd z
        unfold fF_sign_56 at z
        rw [← Option.some.inj z]
        have S2 : ∀ k : Int32, ScI (fp o0 30 0) s2 b2 (fp om 0 k) := fun k => ⟨by obtain ⟨L, S, _⟩ := T; exact ⟨L, S⟩, fun _ => Or.inr (TwS_f T rfl rfl rfl)⟩
        rcases sgn_c T (by omega) hq with ⟨y1, y2⟩ | ⟨y1, y2⟩
        · rcases m2 with ⟨_, m⟩ | ⟨m, _⟩
          · rw [m]; exact ⟨Or.inl ⟨rfl, rfl, y2⟩, ⟨0, rfl⟩, S2 0, rfl⟩
          · omega
        · rcases m2 with ⟨m, _⟩ | ⟨_, m⟩
          · omega
          · rw [m]; exact ⟨Or.inl ⟨rfl, rfl, y2.symm⟩, ⟨0, rfl⟩, S2 0, rfl⟩
      unfold fF_sign_19 at h1
      rcases ifc h1 with ⟨d, h1⟩ | ⟨d, h1⟩
      · obtain ⟨q, hq, h1⟩ := bd h1
        obtain ⟨L0, S0⟩ := hS.1
        obtain ⟨oc, oc', w1, w2, w3, w4, w5, w6, w7, w8, w9⟩ := C3
        have Noc : NaI nl gr oc := NaI_f N (by rw [w2.1.2.2.1, R.1.2.2.1]) (by rw [w2.1.2.2.2.2.1, R.1.2.2.2.2.1]) w4 w5
        obtain ⟨z1, _⟩ := wri_sim G e3 w2 Noc (by rw [w6]; exact W) (w7.trans h95) w3 S0 hq w1
        have f := wF_M_write w1
        exact fin q.1 q.2 (TwS_f z1 (by rw [f.1 95 rfl]; exact w7.symm) w8.symm w9.symm) h1
      · exact fin sc sb ((hS.2 a1).resolve_left d) h1
