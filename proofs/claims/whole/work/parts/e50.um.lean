theorem bg_84 {rc : Nat → Int32 → cf_O → cf_O → cf_O → Option (cf_O × cf_O)} {v3 : Int32} {re gr gt : cf_O} {r : cf_O × cf_O} (h : fRe_begin_84 rc v3 re gr gt = some r) : (v3.toInt ≤ (gr.1 0).toInt ∧ r = (re, gt)) ∨ ((gr.1 0).toInt < v3.toInt ∧ ((re.2.1 0 v3.toNatClampNeg = 0 ∧ rc 2 (v3 + (-1)) re gr gt = some r) ∨ (¬ re.2.1 0 v3.toNatClampNeg = 0 ∧ ∃ u w : cf_O, fRe_use (gr.2.1 4 v3.toNatClampNeg) re = some u ∧ fRe_use (gr.2.1 5 v3.toNatClampNeg) u = some w ∧ rc 2 (v3 + (-1)) w gr gt = some r))) := by
  unfold fRe_begin_84 at h
  rcases ifc h with ⟨a, h⟩ | ⟨a, h⟩
  · exact Or.inl ⟨c_le a, (Option.some.inj h).symm⟩
  · refine Or.inr ⟨c_nle a, ?_⟩
    have h := (ifn h).2
    rw [opk] at h
    rcases ifc h with ⟨d, h⟩ | ⟨d, h⟩
    · unfold fRe_begin_121 at h
      rw [opk] at h
      exact Or.inl ⟨d, h⟩
    · have h := (ifn h).2
      rw [opk] at h
      obtain ⟨u, hu, h⟩ := bd h
      have h := (ifn h).2
      rw [opk] at h
      obtain ⟨w, hw, h⟩ := bd h
      unfold fRe_begin_121 at h
      rw [opk] at h
      exact Or.inr ⟨d, u, w, hu, hw, h⟩
theorem lk_90 {rc : Nat → Int32 → cf_O → Option cf_O} {v1 : Int32} {om r : cf_O} (h : fM_look_90 rc v1 om = some r) : (v1.toInt < 0 ∧ rc 3 0 om = some r) ∨ (0 ≤ v1.toInt ∧ ∃ q : Int32, fM_base om = some q ∧ ((om.2.1 49 (q + v1).toNatClampNeg = 0 ∧ rc 2 (v1 + (-1)) om = some r) ∨ (¬ om.2.1 49 (q + v1).toNatClampNeg = 0 ∧ rc 2 (v1 + (-1)) (xp (xp (xp (xp om 49 (om.2.1 44 v1.toNatClampNeg / 2).toNatClampNeg 1) 49 (om.2.1 45 v1.toNatClampNeg / 2).toNatClampNeg 1) 48 (om.2.1 44 v1.toNatClampNeg / 2).toNatClampNeg (om.2.1 48 (om.2.1 44 v1.toNatClampNeg / 2).toNatClampNeg + 1)) 48 (om.2.1 45 v1.toNatClampNeg / 2).toNatClampNeg (upd (om.2.1 48) (om.2.1 44 v1.toNatClampNeg / 2).toNatClampNeg (om.2.1 48 (om.2.1 44 v1.toNatClampNeg / 2).toNatClampNeg + 1) (om.2.1 45 v1.toNatClampNeg / 2).toNatClampNeg + 1)) = some r))) := by
  unfold fM_look_90 at h
  rcases ifc h with ⟨a, h⟩ | ⟨a, h⟩
  · exact Or.inl ⟨c_lt a, h⟩
  · obtain ⟨q, hq, h⟩ := bd h
    refine Or.inr ⟨c_nlt a, q, hq, ?_⟩
    rw [opk] at h
    have h := (ifn h).2
    rw [opk] at h
    rcases ifc h with ⟨d, h⟩ | ⟨d, h⟩
    · unfold fM_look_170 at h
      rw [opk] at h
      exact Or.inl ⟨d, h⟩
    · have h := (ifn h).2
      rw [opk, opk] at h
      have h := (ifn h).2
      rw [opk] at h
      have h := (ifn h).2
      rw [opk, opk] at h
      have h := (ifn h).2
      rw [opk] at h
      have h := (ifn h).2
      rw [opk, opk] at h
      have h := (ifn h).2
      rw [opk, opk] at h
      have h := (ifn h).2
      rw [opk] at h
      have h := (ifn h).2
      rw [opk, opk] at h
      have h := (ifn h).2
      rw [opk, opk] at h
      have h := (ifn h).2
      rw [opk] at h
      unfold fM_look_170 at h
      rw [opk, vb_1] at h
      exact Or.inr ⟨d, h⟩
