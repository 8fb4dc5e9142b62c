theorem fra_sp {v : Int32} {re gr gt : cf_O} {w : Int32 × cf_O} (h0 : 0 ≤ (gr.2.1 4 v.toNatClampNeg).toInt) (h1 : 0 ≤ (gr.2.1 5 v.toNatClampNeg).toInt) (h : fRe_freshAnd v re gr gt = some w) : fGr_and (re.2.1 4 ((gr.2.1 4 v.toNatClampNeg).toInt.toNat / 2) ^^^ (gr.2.1 4 v.toNatClampNeg &&& 1)) (re.2.1 4 ((gr.2.1 5 v.toNatClampNeg).toInt.toNat / 2) ^^^ (gr.2.1 5 v.toNatClampNeg &&& 1)) gt = some w := by
  unfold fRe_freshAnd fRe_freshAnd_0 at h
  have h := (ifn h).2
  rw [opk] at h
  obtain ⟨x, hx, h⟩ := bd h
  have h := (ifn h).2
  rw [opk] at h
  obtain ⟨y, hy, h⟩ := bd h
  obtain ⟨s, hs, h⟩ := bd h
  rw [fresh_sp h0 hx, fresh_sp h1 hy] at hs
  have e := Option.some.inj h
  rw [hs, ← e]
theorem mr_14 {rc : Nat → Int32 → cf_O → cf_O → cf_O → cf_O → Option (cf_O × cf_O)} {v4 : Int32} {re gr gt fu : cf_O} {r : cf_O × cf_O} (h : fRe_makeReduced_14 rc v4 re gr gt fu = some r) : ∃ z : Int32, fGr_size gr = some z ∧ ((z.toInt ≤ v4.toInt ∧ ∃ u : cf_O, fRe_takeResults re gr gt = some u ∧ r = (re, u)) ∨ (v4.toInt < z.toInt ∧ ((re.2.1 0 v4.toNatClampNeg = 0 ∧ rc 0 (v4 + 1) re gr gt fu = some r) ∨ (¬ re.2.1 0 v4.toNatClampNeg = 0 ∧ ∃ q : Int32, fRe_literalAlike v4 re gr fu = some q ∧ ((q = -1 ∧ ∃ w : Int32 × cf_O, fRe_freshAnd v4 re gr gt = some w ∧ rc 0 (v4 + 1) (xp re 4 v4.toNatClampNeg w.1) gr w.2 fu = some r) ∨ (¬ q = -1 ∧ ∃ x : Int32, fRe_freshOf q re = some x ∧ rc 0 (v4 + 1) (xp re 4 v4.toNatClampNeg x) gr gt fu = some r)))))) := by
  have k73 : ∀ (re gt : cf_O), fRe_makeReduced_73 rc v4 re gr gt fu = some r → rc 0 (v4 + 1) re gr gt fu = some r := fun re gt z => by
    unfold fRe_makeReduced_73 at z
    rw [opk] at z
    exact z
  have k72 : ∀ (s : Int32) (gt : cf_O), fRe_makeReduced_72 rc v4 v4 s re gr gt fu = some r → rc 0 (v4 + 1) (xp re 4 v4.toNatClampNeg s) gr gt fu = some r := fun s gt z => by
    unfold fRe_makeReduced_72 at z
    have z := (ifn z).2
    rw [opk] at z
    exact k73 _ _ z
  unfold fRe_makeReduced_14 at h
  obtain ⟨z, hz, h⟩ := bd h
  refine ⟨z, hz, ?_⟩
  rcases ifc h with ⟨a, h⟩ | ⟨a, h⟩
  · obtain ⟨u, hu, h⟩ := bd h
    exact Or.inl ⟨c_le a, u, hu, (Option.some.inj h).symm⟩
  · refine Or.inr ⟨c_nle a, ?_⟩
    have h := (ifn h).2
    rw [opk] at h
    rcases ifc h with ⟨c, h⟩ | ⟨c, h⟩
    · exact Or.inl ⟨c, k73 _ _ h⟩
    · obtain ⟨q, hq, h⟩ := bd h
      refine Or.inr ⟨c, q, hq, ?_⟩
      rcases ifc h with ⟨d, h⟩ | ⟨d, h⟩
      · obtain ⟨w, hw, h⟩ := bd h
        exact Or.inl ⟨d, w, hw, k72 _ _ h⟩
      · obtain ⟨x, hx, h⟩ := bd h
        exact Or.inr ⟨d, x, hx, k72 _ _ h⟩
theorem rr_45 {rc : Nat → Int32 → Int32 → Int32 → Int32 → cf_O → Option (Int32 × cf_O)} {v1 : Int32} {om : cf_O} {r : Int32 × cf_O} (h : fM_reduce_45 rc v1 om = some r) : ((om.1 43).toInt ≤ v1.toInt ∧ fM_finish om = some r) ∨ (v1.toInt < (om.1 43).toInt ∧ ∃ q : Int32, fM_base om = some q ∧ rc 1 v1 (q + v1) (-1) (q + v1 - 1) om = some r) := by
  unfold fM_reduce_45 at h
  rcases ifc h with ⟨a, h⟩ | ⟨a, h⟩
  · obtain ⟨u, hu, h⟩ := bd h
    have e := Option.some.inj h
    refine Or.inl ⟨c_le a, ?_⟩
    rw [hu, ← e]
  · obtain ⟨q, hq, h⟩ := bd h
    rw [opk, opk] at h
    exact Or.inr ⟨c_nle a, q, hq, h⟩
theorem rr_147 {rc : Nat → Int32 → Int32 → Int32 → Int32 → cf_O → Option (Int32 × cf_O)} {v1 v2 v3 : Int32} {om : cf_O} {r : Int32 × cf_O} (h : fM_reduce_147 rc v1 v2 v3 om = some r) : (v3.toInt < 0 ∧ om.2.1 49 v2.toNatClampNeg = 0 ∧ rc 0 (v1 + 1) 0 0 0 om = some r) ∨ (v3.toInt < 0 ∧ ¬ om.2.1 49 v2.toNatClampNeg = 0 ∧ ∃ s : Int32 × cf_O, fM_and (om.2.1 51 (om.2.1 44 v1.toNatClampNeg / 2).toNatClampNeg ^^^ (om.2.1 44 v1.toNatClampNeg &&& 1)) (om.2.1 51 (om.2.1 45 v1.toNatClampNeg / 2).toNatClampNeg ^^^ (om.2.1 45 v1.toNatClampNeg &&& 1)) om = some s ∧ rc 0 (v1 + 1) 0 0 0 (xp s.2 51 v2.toNatClampNeg s.1) = some r) ∨ (0 ≤ v3.toInt ∧ ∃ t : Int32, fM_agree v3 v2 1 om = some t ∧ rc 0 (v1 + 1) 0 0 0 (xp om 51 v2.toNatClampNeg (om.2.1 51 v3.toNatClampNeg ^^^ (if t = 0 then 0 else 1))) = some r) := by
  have k245 : ∀ om : cf_O, fM_reduce_245 rc v1 om = some r → rc 0 (v1 + 1) 0 0 0 om = some r := fun om z => by
    unfold fM_reduce_245 at z
    rw [opk] at z
    exact z
  have k177 : ∀ s t : Int32, fM_reduce_177 rc v1 v2 s t om = some r → rc 0 (v1 + 1) 0 0 0 (xp om 51 v2.toNatClampNeg (s ^^^ t)) = some r := fun s t z => by
    unfold fM_reduce_177 at z
    rw [opk] at z
    have z := (ifn z).2
    rw [opk] at z
    exact k245 _ z
  unfold fM_reduce_147 at h
  rcases ifc h with ⟨a, h⟩ | ⟨a, h⟩
  · have a : v3.toInt < 0 := c_lt a
    have h := (ifn h).2
    rw [opk] at h
    rcases ifc h with ⟨c, h⟩ | ⟨c, h⟩
    · exact Or.inl ⟨a, c, k245 _ h⟩
    · have h := (ifn h).2
      rw [opk, opk] at h
      have h := (ifn h).2
      rw [opk] at h
      have h := (ifn h).2
      rw [opk, opk, opk] at h
      have h := (ifn h).2
      rw [opk, opk] at h
      have h := (ifn h).2
      rw [opk] at h
      have h := (ifn h).2
      rw [opk, opk, opk] at h
      obtain ⟨s, hs, h⟩ := bd h
      have h := (ifn h).2
      rw [opk] at h
      exact Or.inr (Or.inl ⟨a, c, s, hs, k245 _ h⟩)
  · have a : 0 ≤ v3.toInt := c_nlt a
    have h := (ifn h).2
    rw [opk] at h
    obtain ⟨t, ht, h⟩ := bd h
    refine Or.inr (Or.inr ⟨a, t, ht, ?_⟩)
    rcases ifc h with ⟨c, h⟩ | ⟨c, h⟩
    · rw [if_pos c]; exact k177 _ _ h
    · rw [if_neg c]; exact k177 _ _ h
