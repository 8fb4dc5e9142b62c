def GAq (b : Nat) (us : Nat → Int32) (x : Int32) : Prop := x.toInt % 2 = 0 ∧ (b : Int) ≤ x.toInt / 2 ∧ us (x.toInt.toNat / 2) = 1
noncomputable def ga (b : Nat) (us : Nat → Int32) (x : Int32) : Int32 := cif (GAq b us x) 1 0
theorem ga_1 {b : Nat} {us : Nat → Int32} {x : Int32} (h : GAq b us x) : ga b us x = 1 := cif_t h
theorem ga_0 {b : Nat} {us : Nat → Int32} {x : Int32} (h : ¬ GAq b us x) : ga b us x = 0 := cif_f h
theorem md2_i {x : Int32} (h : 0 ≤ x.toInt) : (x - x / 2 * 2).toInt = x.toInt % 2 := by
  have e : (x / 2).toInt = x.toInt / 2 := i_dv (y := 2) h (by decide)
  have l := Int32.toInt_lt x
  have m : (x / 2 * 2).toInt = x.toInt / 2 * 2 := by rw [Int32.toInt_mul, e, show (2 : Int32).toInt = 2 from rfl, i_bm (by omega) (by omega)]
  rw [Int32.toInt_sub, m, i_bm (by omega) (by omega)]; omega
theorem isGate_sp {b n : Nat} {gr : cf_O} {v q : Int32} (G : GW b n gr) (h : fGr_isGate v gr = some q) : Yn q ((b : Int) ≤ v.toInt ∧ v.toInt < ((b + n : Nat) : Int)) := by
  have G0 := G.1
  have k0 : fGr_isGate_20 gr = some q → q = 0 := fun z => b01_sp (s := 0) z
  have k1 : fGr_isGate_21 1 gr = some q → q = 1 := fun z => b01_sp (s := 1) z
  unfold fGr_isGate fGr_isGate_0 at h
  rcases ifc h with ⟨a, h⟩ | ⟨a, h⟩
  · have a := c_le a
    exact Or.inr ⟨k0 h, by omega⟩
  · have a := c_nle a
    obtain ⟨s, hs, h⟩ := bd h
    have es := size_sp G hs
    rcases ifc h with ⟨d, h⟩ | ⟨d, h⟩
    · have d := c_le d
      exact Or.inr ⟨k0 h, by omega⟩
    · have d := c_nle d
      exact Or.inl ⟨k1 h, by omega, by omega⟩
theorem mark_sp {b n : Nat} {x : Int32} {re gr r : cf_O} (G : GW b n gr) (h0 : 0 ≤ x.toInt) (h1 : x.toInt / 2 < ((b + n : Nat) : Int)) (h : fRe_markApart x re gr = some r) : r = xp re 3 (x.toInt.toNat / 2) (ga b (re.2.1 1) x) := by
  have k38 : ∀ s : Int32, vp_nar .boolean s = s → fRe_markApart_38 (x >>> ((1 : Int32) &&& 31)) s re gr = some r → r = xp re 3 (x.toInt.toNat / 2) s := fun s es z => by
    unfold fRe_markApart_38 at z
    have z := (ifn z).2
    rw [opk, sr_i h0, es] at z
    exact (Option.some.inj z).symm
  have k37 : fRe_markApart_37 (x >>> ((1 : Int32) &&& 31)) re gr = some r → r = xp re 3 (x.toInt.toNat / 2) 0 := fun z => k38 0 vb_0 z
  unfold fRe_markApart fRe_markApart_0 at h
  rw [opk, opk] at h
  rcases ifc h with ⟨a, h⟩ | ⟨a, h⟩
  · have a := c_eq a
    rw [i_a1 h0, show (0 : Int32).toInt = 0 from rfl] at a
    obtain ⟨q, hq, h⟩ := bd h
    have yq := isGate_sp G hq
    rw [i_s1 h0] at yq
    rcases ifc h with ⟨c, h⟩ | ⟨c, h⟩
    · have nq := Yn_0 yq c
      rw [ga_0 (fun z => nq ⟨z.2.1, h1⟩)]
      exact k37 h
    · have gq := Yn_1 yq c
      have h := (ifn h).2
      rw [opk, sr_i h0] at h
      rcases ifc h with ⟨d, h⟩ | ⟨d, h⟩
      · rw [ga_1 ⟨a, gq.1, d⟩]
        exact k38 1 vb_1 h
      · rw [ga_0 (fun z => d z.2.2)]
        exact k37 h
  · have a := c_ne a
    rw [i_a1 h0, show (0 : Int32).toInt = 0 from rfl] at a
    rw [ga_0 (fun z => a z.1)]
    exact k37 h
theorem goes_sp {b n : Nat} {x q : Int32} {gr om : cf_O} (R : RGq b n gr om) (h0 : 0 ≤ x.toInt) (h : fM_goesApart x om = some q) : Yn q (GAq b (om.2.1 48) x) := by
  have k0 : fM_goesApart_32 om = some q → q = 0 := fun z => b01_sp (s := 0) z
  have k1 : fM_goesApart_33 1 om = some q → q = 1 := fun z => b01_sp (s := 1) z
  unfold fM_goesApart fM_goesApart_0 at h
  rw [opk] at h
  have e2 : (x / 2).toInt = x.toInt / 2 := i_dv (y := 2) h0 (by decide)
  rcases ifc h with ⟨a, h⟩ | ⟨a, h⟩
  · have a := c_eq a
    rw [md2_i h0, show (0 : Int32).toInt = 0 from rfl] at a
    rw [opk] at h
    obtain ⟨s, hs, h⟩ := bd h
    have es := base_sp R hs
    rcases ifc h with ⟨c, h⟩ | ⟨c, h⟩
    · have c := c_lt c
      exact Or.inr ⟨k0 h, fun z => by have := z.2.1; omega⟩
    · have c := c_nlt c
      rw [opk] at h
      have h := (ifn h).2
      rw [opk, hf_i h0] at h
      rcases ifc h with ⟨d, h⟩ | ⟨d, h⟩
      · exact Or.inl ⟨k1 h, a, by omega, d⟩
      · exact Or.inr ⟨k0 h, fun z => d z.2.2⟩
  · have a := c_ne a
    rw [md2_i h0, show (0 : Int32).toInt = 0 from rfl] at a
    exact Or.inr ⟨k0 h, fun z => a z.1⟩
theorem fa_7 {rc : Nat → Int32 → cf_O → cf_O → Option cf_O} {v2 : Int32} {re gr r : cf_O} (h : fRe_findApart_7 rc v2 re gr = some r) : ∃ q : Int32, fGr_size gr = some q ∧ ((q.toInt ≤ v2.toInt ∧ r = re) ∨ (v2.toInt < q.toInt ∧ ((re.2.1 0 v2.toNatClampNeg = 0 ∧ rc 0 (v2 + 1) (xp re 3 v2.toNatClampNeg 0) gr = some r) ∨ (¬ re.2.1 0 v2.toNatClampNeg = 0 ∧ ∃ u w : cf_O, fRe_markApart (gr.2.1 4 v2.toNatClampNeg) (xp re 3 v2.toNatClampNeg 0) gr = some u ∧ fRe_markApart (gr.2.1 5 v2.toNatClampNeg) u gr = some w ∧ rc 0 (v2 + 1) w gr = some r)))) := by
  unfold fRe_findApart_7 at h
  obtain ⟨q, hq, h⟩ := bd h
  refine ⟨q, hq, ?_⟩
  rcases ifc h with ⟨a, h⟩ | ⟨a, h⟩
  · exact Or.inl ⟨c_le a, (Option.some.inj h).symm⟩
  · refine Or.inr ⟨c_nle a, ?_⟩
    have h := (ifn h).2
    rw [opk, vb_0] at h
    have h := (ifn h).2
    rw [opk] at h
    rcases ifc h with ⟨d, h⟩ | ⟨d, h⟩
    · unfold fRe_findApart_53 at h
      rw [opk] at h
      exact Or.inl ⟨d, h⟩
    · have h := (ifn h).2
      rw [opk] at h
      obtain ⟨u, hu, h⟩ := bd h
      have h := (ifn h).2
      rw [opk] at h
      obtain ⟨w, hw, h⟩ := bd h
      unfold fRe_findApart_53 at h
      rw [opk] at h
      exact Or.inr ⟨d, u, w, hu, hw, h⟩
def MkA (x : Int32) (om : cf_O) (i : Nat) (y : Int32) : Prop := (¬ om.2.1 50 i = 0 ∧ y = 1) ∨ (om.2.1 50 i = 0 ∧ ∃ t : Int32, fM_goesApart x om = some t ∧ ((t = 0 ∧ y = 0) ∨ (¬ t = 0 ∧ y = 1)))
theorem lk_293 {rc : Nat → Int32 → cf_O → Option cf_O} {v1 s1 s2 : Int32} {om r : cf_O} (hs : vp_nar .boolean s2 = s2) (h : fM_look_293 rc v1 s1 s2 om = some r) : rc 3 (v1 + 1) (xp om 50 s1.toNatClampNeg s2) = some r := by
  unfold fM_look_293 at h
  have h := (ifn h).2
  rw [opk, hs] at h
  unfold fM_look_294 at h
  rw [opk] at h
  exact h
theorem lk_246 {rc : Nat → Int32 → cf_O → Option cf_O} {v1 s1 s2 : Int32} {om r : cf_O} (hs : vp_nar .boolean s2 = s2) (h : fM_look_246 rc v1 s1 s2 om = some r) : ∃ z : Int32, MkA (om.2.1 45 v1.toNatClampNeg) (xp om 50 s1.toNatClampNeg s2) (om.2.1 45 v1.toNatClampNeg / 2).toNatClampNeg z ∧ rc 3 (v1 + 1) (xp (xp om 50 s1.toNatClampNeg s2) 50 (om.2.1 45 v1.toNatClampNeg / 2).toNatClampNeg z) = some r := by
  unfold fM_look_246 at h
  have h := (ifn h).2
  rw [opk, hs] at h
  have h := (ifn h).2
  rw [opk, opk] at h
  have h := (ifn h).2
  rw [opk, opk] at h
  have h := (ifn h).2
  rw [opk] at h
  rcases ifc h with ⟨a, h⟩ | ⟨a, h⟩
  · have h := (ifn h).2
    rw [opk] at h
    obtain ⟨t, ht, h⟩ := bd h
    rcases ifc h with ⟨c, h⟩ | ⟨c, h⟩
    · exact ⟨0, Or.inr ⟨a, t, ht, Or.inl ⟨c, rfl⟩⟩, lk_293 vb_0 h⟩
    · unfold fM_look_288 at h
      exact ⟨1, Or.inr ⟨a, t, ht, Or.inr ⟨c, rfl⟩⟩, lk_293 vb_1 h⟩
  · unfold fM_look_288 at h
    exact ⟨1, Or.inl ⟨a, rfl⟩, lk_293 vb_1 h⟩
theorem lk_178 {rc : Nat → Int32 → cf_O → Option cf_O} {v1 : Int32} {om r : cf_O} (h : fM_look_178 rc v1 om = some r) : ((om.1 43).toInt ≤ v1.toInt ∧ r = om) ∨ (v1.toInt < (om.1 43).toInt ∧ ∃ q : Int32, fM_base om = some q ∧ ((om.2.1 49 (q + v1).toNatClampNeg = 0 ∧ rc 3 (v1 + 1) om = some r) ∨ (¬ om.2.1 49 (q + v1).toNatClampNeg = 0 ∧ ∃ y z : Int32, MkA (om.2.1 44 v1.toNatClampNeg) om (om.2.1 44 v1.toNatClampNeg / 2).toNatClampNeg y ∧ MkA (om.2.1 45 v1.toNatClampNeg) (xp om 50 (om.2.1 44 v1.toNatClampNeg / 2).toNatClampNeg y) (om.2.1 45 v1.toNatClampNeg / 2).toNatClampNeg z ∧ rc 3 (v1 + 1) (xp (xp om 50 (om.2.1 44 v1.toNatClampNeg / 2).toNatClampNeg y) 50 (om.2.1 45 v1.toNatClampNeg / 2).toNatClampNeg z) = some r))) := by
  unfold fM_look_178 at h
  rcases ifc h with ⟨a, h⟩ | ⟨a, h⟩
  · exact Or.inl ⟨c_le a, (Option.some.inj h).symm⟩
  · obtain ⟨q, hq, h⟩ := bd h
    refine Or.inr ⟨c_nle a, q, hq, ?_⟩
    rw [opk] at h
    have h := (ifn h).2
    rw [opk] at h
    rcases ifc h with ⟨d, h⟩ | ⟨d, h⟩
    · unfold fM_look_294 at h
      rw [opk] at h
      exact Or.inl ⟨d, h⟩
    · have h := (ifn h).2
      rw [opk, opk] at h
      have h := (ifn h).2
      rw [opk, opk] at h
      have h := (ifn h).2
      rw [opk] at h
      refine Or.inr ⟨d, ?_⟩
      rcases ifc h with ⟨e, h⟩ | ⟨e, h⟩
      · have h := (ifn h).2
        rw [opk] at h
        obtain ⟨t, ht, h⟩ := bd h
        rcases ifc h with ⟨c, h⟩ | ⟨c, h⟩
        · obtain ⟨z, z1, z2⟩ := lk_246 vb_0 h
          exact ⟨0, z, Or.inr ⟨e, t, ht, Or.inl ⟨c, rfl⟩⟩, z1, z2⟩
        · unfold fM_look_241 at h
          obtain ⟨z, z1, z2⟩ := lk_246 vb_1 h
          exact ⟨1, z, Or.inr ⟨e, t, ht, Or.inr ⟨c, rfl⟩⟩, z1, z2⟩
      · unfold fM_look_241 at h
        obtain ⟨z, z1, z2⟩ := lk_246 vb_1 h
        exact ⟨1, z, Or.inl ⟨e, rfl⟩, z1, z2⟩
