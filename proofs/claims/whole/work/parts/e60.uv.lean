theorem refuse_2 {s : Int32} {o : cf_O} (h : ¬ s = 0) : fM_refuse 0 s 0 o = some (1, fp o 0 2) := by
  unfold fM_refuse fM_refuse_0
  rw [if_pos rfl, if_neg h]
  rfl
def FiC (gr gt om : cf_O) (rc : cf_O) (rm : Int32 × cf_O) : Prop := ∃ om' : cf_O, Fr (fr_M [] [7] []) gt rc ∧ Fr (fr_M [] [35] []) om om' ∧ (∀ k : Nat, (k : Int) < (gr.1 1).toInt → rc.2.1 7 k = om'.2.1 35 k) ∧ ∃ f : Nat → Int32 → cf_O → Option (Int32 × cf_O), fM_finish_57 f 0 om' = some rm
theorem fin_go {b n : Nat} {gr GT RE OM : cf_O} (G : GW b n gr) (R : RGq b n gr OM) (HO : ∀ k : Nat, (k : Int) < (gr.1 1).toInt → OM.2.1 51 ((gr.2.1 7 k).toInt.toNat / 2) = RE.2.1 4 ((gr.2.1 7 k).toInt.toNat / 2)) (h38 : OM.1 38 = 1) : ∀ (f1 f2 : Nat) (v : Int32) (gt om rc : cf_O) (rm : Int32 × cf_O), Fr (fr_M [] [7] []) GT gt → Fr (fr_M [] [35] []) OM om → 0 ≤ v.toInt → v.toInt ≤ (gr.1 1).toInt → (∀ k : Nat, (k : Int) < v.toInt → gt.2.1 7 k = om.2.1 35 k) → gRe_takeResults f1 0 v RE gr gt = some rc → gM_finish f2 0 v om = some rm → FiC gr GT OM rc rm
  | 0, f2, v, gt, om, rc, rm, fg, fo, h0, h1, hz, q1, q2 => by cases q1
  | f1 + 1, 0, v, gt, om, rc, rm, fg, fo, h0, h1, hz, q1, q2 => by cases q2
  | f1 + 1, f2 + 1, v, gt, om, rc, rm, fg, fo, h0, h1, hz, q1, q2 => by
    have q1 : fRe_takeResults_2 (gRe_takeResults f1) v RE gr gt = some rc := q1
    have q2 : fM_finish_2 (gM_finish f2) v om = some rm := q2
    have G0 := G.1
    have e40 : om.1 40 = gr.1 1 := by rw [fo.1 40 rfl]; exact R.1.2.2.2.2.1
    unfold fRe_takeResults_2 at q1
    unfold fM_finish_2 at q2
    rcases ifc q1 with ⟨a, q1⟩ | ⟨a, q1⟩
    · have a := c_le a
      rcases ifc q2 with ⟨_, q2⟩ | ⟨d, _⟩
      · have er := (Option.some.inj q1).symm
        subst er
        rcases ifc q2 with ⟨c, _⟩ | ⟨_, q2⟩
        · rw [fo.1 38 rfl, h38] at c; exact absurd c (by decide)
        · exact ⟨om, fg, fo, fun k hk => hz k (by omega), _, q2⟩
      · have d := c_nle d; rw [e40] at d; omega
    · have a := c_nle a
      rcases ifc q2 with ⟨d, _⟩ | ⟨_, q2⟩
      · have d := c_le d; rw [e40] at d; omega
      have vi : v.toNatClampNeg = v.toInt.toNat := by have := tn_n v; omega
      have e1 := p_1 (v := v) h0 (by omega)
      have ob := G.2.2 v.toInt.toNat (by omega)
      have e47 : om.2.1 47 v.toInt.toNat = gr.2.1 7 v.toInt.toNat := by rw [fo.2.1 47 rfl]; exact R.2.2.2.1 _ (by omega)
      have ff := HO v.toInt.toNat (by omega)
      have q1 := (ifn q1).2
      rw [opk, vi] at q1
      obtain ⟨x, hx, q1⟩ := bd q1
      have ex := fresh_sp ob.1 hx
      have q1 := (ifn q1).2
      rw [opk, opk] at q1
      have q2 := (ifn q2).2
      rw [opk, opk] at q2
      have q2 := (ifn q2).2
      rw [opk] at q2
      have q2 := (ifn q2).2
      rw [opk, opk, opk] at q2
      have q2 := (ifn q2).2
      rw [opk, opk, vi, e47, hf_i ob.1, fo.2.1 51 rfl, ff] at q2
      rw [ex] at q1
      refine fin_go G R HO h38 f1 f2 (v + 1) (xp gt 7 v.toInt.toNat (RE.2.1 4 ((gr.2.1 7 v.toInt.toNat).toInt.toNat / 2) ^^^ (gr.2.1 7 v.toInt.toNat &&& 1))) (xp om 35 v.toInt.toNat (RE.2.1 4 ((gr.2.1 7 v.toInt.toNat).toInt.toNat / 2) ^^^ (gr.2.1 7 v.toInt.toNat &&& 1))) rc rm (fr_xp fg rfl) (fr_xp fo rfl) (by omega) (by omega) (fun k hk => ?_) q1 q2
      show upd (gt.2.1 7) v.toInt.toNat _ k = upd (om.2.1 35) v.toInt.toNat _ k
      by_cases e : k = v.toInt.toNat
      · rw [e, up_s, up_s]
      · rw [up_o e, up_o e]; exact hz k (by omega)
theorem fin_sim {b n : Nat} {gr gt re om rc : cf_O} {rm : Int32 × cf_O} (G : GW b n gr) (R : RGq b n gr om) (HO : ∀ k : Nat, (k : Int) < (gr.1 1).toInt → om.2.1 51 ((gr.2.1 7 k).toInt.toNat / 2) = re.2.1 4 ((gr.2.1 7 k).toInt.toNat / 2)) (h38 : om.1 38 = 1) (q1 : fRe_takeResults re gr gt = some rc) (q2 : fM_finish om = some rm) : FiC gr gt om rc rm := by
  unfold fRe_takeResults fRe_takeResults_0 at q1
  unfold fM_finish fM_finish_0 at q2
  have G0 := G.1
  exact fin_go G R HO h38 cfFU cfFU 0 gt om rc rm fr_rfl fr_rfl (by decide) (by rw [show (0 : Int32).toInt = 0 from rfl]; omega) (fun k hk => absurd hk (by rw [show (0 : Int32).toInt = 0 from rfl]; omega)) q1 q2
def NwG (gr om : cf_O) (gt : cf_O) (rm : Int32 × cf_O) : Prop := gt.1 0 = gr.1 0 ∧ gt.1 1 = gr.1 1 ∧ ((gt.1 3 = 0 ∧ rm.2.1 0 = 0 ∧ rm.1 = gt.1 2 ∧ rm.2.1 64 = 0 ∧ rm.2.1 85 = 0 ∧ ∃ b m : Nat, RGq b m gt rm.2) ∨ (¬ gt.1 3 = 0 ∧ rm.2.1 0 = 2 ∧ rm.2.1 64 = om.1 64 ∧ rm.2.1 85 = om.1 85 ∧ ∀ b n : Nat, RGq b n gr om → RGq b n gr rm.2))
theorem fin_new {b n m : Nat} {gr gt' re om om0 rc : cf_O} {rm : Int32 × cf_O} (G : GW b n gr) (R0 : RGq b n gr om) (HO : ∀ k : Nat, (k : Int) < (gr.1 1).toInt → om.2.1 51 ((gr.2.1 7 k).toInt.toNat / 2) = re.2.1 4 ((gr.2.1 7 k).toInt.toNat / 2)) (R : Rg b m gt' om) (h38 : om.1 38 = 1) (g0 : gt'.1 0 = gr.1 0) (g1 : gt'.1 1 = gr.1 1) (k64 : om.1 64 = om0.1 64) (k85 : om.1 85 = om0.1 85) (kG : ∀ b n : Nat, RGq b n gr om0 → RGq b n gr om) (q1 : fRe_takeResults re gr gt' = some rc) (q2 : fM_finish om = some rm) : NwG gr om0 rc rm := by
  obtain ⟨om', f1, f2, f3, f, q⟩ := fin_sim G R0 HO h38 q1 q2
  have R0n := R0.1
  have Rn := R.1
  unfold fM_finish_57 at q
  have e36 : om'.1 36 = rc.1 3 := by rw [f2.1 36 rfl, f1.1 3 rfl]; exact R.2.2.2.1
  refine ⟨by rw [f1.1 0 rfl]; exact g0, by rw [f1.1 1 rfl]; exact g1, ?_⟩
  by_cases z : om'.1 36 = 0
  · rw [z, refuse_00, Option.bind_some, if_pos (show ((0 : Int32), fp om' 0 0).1 = 0 from rfl)] at q
    obtain ⟨u, hu, q⟩ := bd q
    have er := (Option.some.inj q).symm
    subst er
    have hu : fM_take (fp om' 0 0) = some u := hu
    have e31 : (fp om' 0 0).1 31 = om.1 31 := f2.1 31 rfl
    have e40 : (fp om' 0 0).1 40 = om.1 40 := f2.1 40 rfl
    have o40 := R0n.2.2.2.2.1
    have G0 := G.1
    obtain ⟨t1, t43, t64, t85, t44, t46, t47⟩ := take_sp (by rw [e31]; omega) (by rw [e40, o40]; omega) hu
    have c2 : rc.1 2 = gt'.1 2 := f1.1 2 rfl
    refine Or.inl ⟨by rw [← e36]; exact z, by show u.1 0 = 0; rw [t1.1 0 rfl]; rfl, ?_, t64, t85, b, m, ⟨by rw [t43, e31]; exact Rn.1, by rw [c2]; exact Rn.2.1, ?_, ?_, ?_, Rn.2.2.2.2.1, Rn.2.2.2.2.2.1, Rn.2.2.2.2.2.2⟩, fun g hg => ?_, fun k hk => ?_, fun k hk => ?_, fun g k h1 h2 h3 h4 => ?_⟩
    · show u.1 43 = rc.1 2
      rw [t43, e31, c2]; exact Int32.toInt_inj.mp (by omega)
    · show u.1 39 = rc.1 0
      rw [t1.1 39 rfl, f1.1 0 rfl, g0]
      show om'.1 39 = gr.1 0
      rw [f2.1 39 rfl]; exact R0n.2.2.1
    · rw [f1.1 0 rfl]; exact Rn.2.2.2.1
    · show u.1 40 = rc.1 1
      rw [t1.1 40 rfl, e40, f1.1 1 rfl, g1]; exact o40
    · have w := R.2.1 g hg
      have q := t44 g (by rw [e31]; omega)
      show u.2.1 44 g = rc.2.1 4 (b + g) ∧ u.2.1 45 g = rc.2.1 5 (b + g)
      rw [q.1, q.2, f1.2.1 4 rfl, f1.2.1 5 rfl]
      show om'.2.1 32 g = _ ∧ om'.2.1 33 g = _
      rw [f2.2.1 32 rfl, f2.2.1 33 rfl]; exact w
    · have w := R.2.2.1 k hk
      show u.2.1 46 k = rc.2.1 6 k ∧ 0 ≤ (rc.2.1 6 k).toInt ∧ (rc.2.1 6 k).toInt ≤ (m : Int)
      rw [t46 k (by omega), f1.2.1 6 rfl]
      show om'.2.1 34 k = _ ∧ _
      rw [f2.2.1 34 rfl]; exact w
    · have hk : (k : Int) < (rc.1 1).toInt := hk
      rw [f1.1 1 rfl, g1] at hk
      show u.2.1 47 k = rc.2.1 7 k
      rw [t47 k (by rw [e40, o40]; exact hk)]
      exact (f3 k hk).symm
    · rw [f1.2.1 4 rfl] at h3
      rw [f1.2.1 5 rfl] at h4
      exact R.2.2.2.2.2.2 g k h1 h2 h3 h4
  · rw [refuse_2 z, Option.bind_some, if_neg (show ¬ ((1 : Int32), fp om' 0 2).1 = 0 by show ¬ (1 : Int32) = 0; decide)] at q
    have er := (Option.some.inj q).symm
    subst er
    refine Or.inr ⟨by rw [← e36]; exact z, rfl, ?_, ?_, fun b n r => ?_⟩
    · show om'.1 64 = om0.1 64
      rw [f2.1 64 rfl]; exact k64
    · show om'.1 85 = om0.1 85
      rw [f2.1 85 rfl]; exact k85
    · exact RGq_f (kG b n r) (f2.1 39 rfl) (f2.1 40 rfl) (f2.1 43 rfl) (f2.2.1 44 rfl) (f2.2.1 45 rfl) (f2.2.1 46 rfl) (f2.2.1 47 rfl)
