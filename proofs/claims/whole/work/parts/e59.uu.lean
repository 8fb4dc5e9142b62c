theorem lk3_f : ∀ {f : Nat} {v1 : Int32} {om r : cf_O}, gM_look f 3 v1 om = some r → Fr (fr_M [] [50] []) om r
  | 0, v1, om, r, h => by cases h
  | f + 1, v1, om, r, h => by
    have h : fM_look_178 (gM_look f) v1 om = some r := h
    rcases lk_178 h with ⟨_, e⟩ | ⟨_, q, _, ⟨_, h⟩ | ⟨_, y, z, _, _, h⟩⟩
    · subst e; exact fr_rfl
    · exact lk3_f h
    · exact fr_tr (fr_xp (fr_xp fr_rfl rfl) rfl) (lk3_f h) rfl rfl rfl
theorem old_go {b n : Nat} {gr OM : cf_O} (R : RGq b n gr OM) : ∀ (f : Nat) (v1 : Int32) (om r : cf_O), Fr (fr_M [] [51] []) OM om → 0 ≤ v1.toInt → v1.toInt ≤ (b : Int) → (∀ k : Nat, (k : Int) < v1.toInt → (om.2.1 51 k).toInt = 2 * (k : Int)) → gM_old f 0 v1 om = some r → Fr (fr_M [] [51] []) OM r ∧ ∀ k : Nat, k < b → (r.2.1 51 k).toInt = 2 * (k : Int)
  | 0, v1, om, r, fo, h0, h1, hz, h => by cases h
  | f + 1, v1, om, r, fo, h0, h1, hz, h => by
    have h : fM_old_2 (gM_old f) v1 om = some r := h
    unfold fM_old_2 at h
    obtain ⟨q, hq, h⟩ := bd h
    have R0 := R.1
    have eb := base_sp (RGq_f R (fo.1 39 rfl) (fo.1 40 rfl) (fo.1 43 rfl) (fo.2.1 44 rfl) (fo.2.1 45 rfl) (fo.2.1 46 rfl) (fo.2.1 47 rfl)) hq
    rcases ifc h with ⟨a, h⟩ | ⟨a, h⟩
    · have a := c_le a
      rw [← Option.some.inj h]
      exact ⟨fo, fun k hk => hz k (by omega)⟩
    · have a := c_nle a
      have vi : v1.toNatClampNeg = v1.toInt.toNat := by have := tn_n v1; omega
      have e1 := p_1 (v := v1) h0 (by omega)
      have m2 : (2 * v1).toInt = 2 * v1.toInt := by rw [Int32.toInt_mul, i_bm (by rw [show (2 : Int32).toInt = 2 from rfl]; omega) (by rw [show (2 : Int32).toInt = 2 from rfl]; omega)]; rfl
      rw [opk] at h
      have h := (ifn h).2
      rw [opk, opk, vi] at h
      refine old_go R f (v1 + 1) (xp om 51 v1.toInt.toNat (2 * v1)) r (fr_xp fo rfl) (by omega) (by omega) (fun k hk => ?_) h
      show (upd (om.2.1 51) v1.toInt.toNat (2 * v1) k).toInt = 2 * (k : Int)
      by_cases e : k = v1.toInt.toNat
      · rw [e, up_s, m2]; omega
      · rw [up_o e]; exact hz k (by omega)
theorem old_sp {b n : Nat} {gr om r : cf_O} (R : RGq b n gr om) (h : fM_old om = some r) : Fr (fr_M [] [51] []) om r ∧ ∀ k : Nat, k < b → (r.2.1 51 k).toInt = 2 * (k : Int) := by
  unfold fM_old fM_old_0 at h
  exact old_go R cfFU 0 om r fr_rfl (by decide) (by rw [show (0 : Int32).toInt = 0 from rfl]; omega) (fun k hk => absurd hk (by rw [show (0 : Int32).toInt = 0 from rfl]; omega)) h
def NbC (b n : Nat) (gr gt re om : cf_O) (rc : cf_O × cf_O) (om2 rm : cf_O) : Prop := (∃ f : Nat, gM_look f 3 0 om2 = some rm) ∧ Fr (fr_M [] [0, 1, 4] []) re rc.1 ∧ Fr (fr_M [] [48, 49, 50] []) om om2 ∧ NdS (b + n) rc.1 om2 ∧ (∀ k : Nat, k < b + n → (rc.1.2.1 4 k).toInt = 2 * (k : Int)) ∧ (∀ k : Nat, k < 210 → om2.2.1 50 k = 0) ∧ fGr_restart (gr.1 0) (gr.1 1) gt = some rc.2
theorem nb_sim {b n : Nat} {gr gt re om rm : cf_O} {rc : cf_O × cf_O} (G : GW b n gr) (R : RGq b n gr om) (q1 : fRe_begin re gr gt = some rc) (q2 : fM_look om = some rm) : ∃ om2 : cf_O, NbC b n gr gt re om rc om2 rm := by
  unfold fRe_begin fRe_begin_0 at q1
  obtain ⟨g1, hg1, q1⟩ := bd q1
  unfold fM_look fM_look_0 at q2
  obtain ⟨f1, r1, F1, Z1, q1⟩ := bgn0_go (RE := re) G cfFU 0 re rc fr_rfl (by decide) (by rw [show (0 : Int32).toInt = 0 from rfl]; omega) (fun k hk => absurd hk (by rw [show (0 : Int32).toInt = 0 from rfl]; omega)) q1
  obtain ⟨f2, o1, F2, Z2, q2⟩ := look0_go (OM := om) cfFU 0 om rm fr_rfl (by decide) (by decide) (fun k hk => absurd hk (by rw [show (0 : Int32).toInt = 0 from rfl]; omega)) q2
  have G0 := G.1
  have R1 : RGq b n gr o1 := RGq_f R (F2.1 39 rfl) (F2.1 40 rfl) (F2.1 43 rfl) (F2.2.1 44 rfl) (F2.2.1 45 rfl) (F2.2.1 46 rfl) (F2.2.1 47 rfl)
  have N1 : NdS (b + n) r1 o1 := fun k hk => by
    rw [(Z1 k hk).1, (Z1 k hk).2.1, (Z2 k (by omega)).1, (Z2 k (by omega)).2.1]; exact ⟨rfl, rfl⟩
  obtain ⟨f3, f4, v3, v1, r2, o2, F3, F4, N2, e1, e3, q1, q2⟩ := nd1_go (RE := r1) G R1 f1 f2 0 r1 o1 rc rm fr_rfl fr_rfl N1 (by decide) (by rw [show (0 : Int32).toInt = 0 from rfl]; omega) q1 q2
  obtain ⟨f5, r3, o3, er, F5, F6, N3, q2⟩ := nd2_go (RE := r1) (OM := o1) G R1 f3 f4 v3 v1 r2 o2 rc rm F3 F4 N2 (by omega) (by omega) e3 q1 q2
  subst er
  exact ⟨o3, ⟨f5, q2⟩, fr_tr F1 F5 rfl rfl rfl, fr_tr F2 F6 rfl rfl rfl, N3, fun k hk => by show (r3.2.1 4 k).toInt = _; rw [F5.2.1 4 rfl]; exact (Z1 k hk).2.2, fun k hk => by rw [F6.2.1 50 rfl]; exact (Z2 k hk).2.2, hg1⟩
theorem ou_ok {b n : Nat} {gr re om : cf_O} (B : BlC b n gr re om) {k : Nat} (hk : (k : Int) < (gr.1 1).toInt) : (gr.2.1 7 k).toInt.toNat / 2 < b + n ∧ ((gr.2.1 7 k).toInt.toNat / 2 < b ∨ (¬ re.2.1 0 ((gr.2.1 7 k).toInt.toNat / 2) = 0 ∧ re.2.1 3 ((gr.2.1 7 k).toInt.toNat / 2) = 0)) := by
  obtain ⟨G, R, N, A, LK⟩ := B
  have G0 := G.1
  have ob := G.2.2 k hk
  have e47 := R.2.2.2.1 k hk
  have e40 : (om.1 40).toInt = (gr.1 1).toInt := by rw [R.1.2.2.2.2.1]
  refine ⟨by omega, ?_⟩
  by_cases lb : (gr.2.1 7 k).toInt.toNat / 2 < b
  · exact Or.inl lb
  · have nn := N ((gr.2.1 7 k).toInt.toNat / 2) (by omega)
    have nz := LK.2.2 k ((gr.2.1 7 k).toInt.toNat / 2) (by omega) (by rw [e47]; omega)
    refine Or.inr ⟨fun z => nz (by rw [nn.1, z]; rfl), ?_⟩
    refine Classical.byContradiction (fun z => ?_)
    have ak := A.1 ((gr.2.1 7 k).toInt.toNat / 2) (by omega) (by omega)
    obtain ⟨x, ox, ex, gx⟩ := A.2.2.2 ((gr.2.1 7 k).toInt.toNat / 2) (by omega) (by rw [ak]; exact z)
    have l1 := LK.1 ((gr.2.1 7 k).toInt.toNat / 2) (by omega)
    have u1 := gx.2.2
    rw [ex] at u1
    rw [nn.2, u1, show (1 : Int32).toInt = 1 from rfl] at l1
    have s1 := sm_at (P := fun _ => True) (w := eo (om.2.1 47) ((gr.2.1 7 k).toInt.toNat / 2)) (x := k) (om.1 40).toInt.toNat (by omega) trivial
    have w1 : eo (om.2.1 47) ((gr.2.1 7 k).toInt.toNat / 2) k = 1 := by
      unfold eo
      rw [e47, if_pos (by omega)]
    obtain ⟨i, hi, ni, ei⟩ := ox
    have ri := R.2.1 i hi
    have gi := G.2.1 i hi
    have s2 := sm_at (P := fun g => (-1 : Int) < (g : Int) ∧ ¬ (om.2.1 49 ((b : Int) + (g : Int)).toNat).toInt = 0) (w := e1 (om.2.1 44) (om.2.1 45) ((gr.2.1 7 k).toInt.toNat / 2)) (x := i) (n : Int).toNat (by omega) ⟨by omega, fun q => ni (Int32.toInt_inj.mp (by rw [← (N (b + i) (by omega)).1, show b + i = ((b : Int) + (i : Int)).toNat from by omega, q]; rfl))⟩
    have w2 : 1 ≤ e1 (om.2.1 44) (om.2.1 45) ((gr.2.1 7 k).toInt.toNat / 2) i := by
      unfold e1
      rw [ri.1, ri.2]
      rcases ei with q | q
      · have x0 : 0 ≤ x.toInt := by rw [q]; omega
        rw [← q, if_pos (c := x.toInt / 2 = (((gr.2.1 7 k).toInt.toNat / 2 : Nat) : Int)) (by omega)]; omega
      · have x0 : 0 ≤ x.toInt := by rw [q]; omega
        rw [← q, if_pos (c := x.toInt / 2 = (((gr.2.1 7 k).toInt.toNat / 2 : Nat) : Int)) (by omega)]; omega
    omega
