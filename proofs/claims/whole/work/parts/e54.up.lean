theorem fresh_sp {x q : Int32} {re : cf_O} (h0 : 0 ≤ x.toInt) (h : fRe_freshOf x re = some q) : q = re.2.1 4 (x.toInt.toNat / 2) ^^^ (x &&& 1) := by
  unfold fRe_freshOf fRe_freshOf_0 at h
  rw [opk] at h
  have h := (ifn h).2
  rw [opk, opk, opk, sr_i h0] at h
  exact (Option.some.inj h).symm
theorem fl_64 {rc : Nat → Int32 → Int32 → Int32 → cf_O → cf_O → Option cf_O} {v2 v3 v4 v6 : Int32} {re gr r : cf_O} (h : fRe_findLeaves_64 rc v2 v3 v4 v6 re gr = some r) : rc 0 v2 (v3 + 2) (v4 + 1) (xp (xp re 5 v3.toNatClampNeg (gr.2.1 5 v6.toNatClampNeg)) 5 (v3 + 1).toNatClampNeg (gr.2.1 4 v6.toNatClampNeg)) gr = some r := by
  unfold fRe_findLeaves_64 at h
  have h := (ifn h).2
  rw [opk] at h
  have h := (ifn h).2
  rw [opk, opk] at h
  have h := (ifn h).2
  rw [opk] at h
  have h := (ifn h).2
  rw [opk, opk] at h
  unfold fRe_findLeaves_123 at h
  rw [opk] at h
  exact h
theorem fl_19 {rc : Nat → Int32 → Int32 → Int32 → cf_O → cf_O → Option cf_O} {v2 v3 v4 : Int32} {re gr r : cf_O} (h : fRe_findLeaves_19 rc v2 v3 v4 re gr = some r) : (418 ≤ v4.toInt ∧ r = re) ∨ (v4.toInt < 418 ∧ v3.toInt ≤ 0 ∧ r = re) ∨ (v4.toInt < 418 ∧ 0 < v3.toInt ∧ ∃ w x : Int32, w = v3 + (-1) ∧ x = re.2.1 5 w.toNatClampNeg ∧ (((x >>> ((1 : Int32) &&& 31) = v2 ∨ ¬ re.2.1 3 (x >>> ((1 : Int32) &&& 31)).toNatClampNeg = 0) ∧ rc 0 v2 (w + 2) (v4 + 1) (xp (xp re 5 w.toNatClampNeg (gr.2.1 5 (x >>> ((1 : Int32) &&& 31)).toNatClampNeg)) 5 (w + 1).toNatClampNeg (gr.2.1 4 (x >>> ((1 : Int32) &&& 31)).toNatClampNeg)) gr = some r) ∨ (¬ x >>> ((1 : Int32) &&& 31) = v2 ∧ re.2.1 3 (x >>> ((1 : Int32) &&& 31)).toNatClampNeg = 0 ∧ ∃ q : Int32, fRe_freshOf x re = some q ∧ rc 0 v2 w (v4 + 1) (fp (xp re 6 (re.1 7).toNatClampNeg q) 7 ((re.1 7) + 1)) gr = some r))) := by
  unfold fRe_findLeaves_19 at h
  rcases ifc h with ⟨a, h⟩ | ⟨a, h⟩
  · exact Or.inl ⟨c_le a, (Option.some.inj h).symm⟩
  · have a : v4.toInt < 418 := c_nle a
    rcases ifc h with ⟨b, h⟩ | ⟨b, h⟩
    · exact Or.inr (Or.inl ⟨a, c_le b, (Option.some.inj h).symm⟩)
    · refine Or.inr (Or.inr ⟨a, c_nle b, v3 + (-1), re.2.1 5 (v3 + (-1)).toNatClampNeg, rfl, rfl, ?_⟩)
      rw [opk] at h
      have h := (ifn h).2
      rw [opk, opk] at h
      rcases ifc h with ⟨c, h⟩ | ⟨c, h⟩
      · exact Or.inl ⟨Or.inl c, fl_64 h⟩
      · have h := (ifn h).2
        rw [opk] at h
        rcases ifc h with ⟨d, h⟩ | ⟨d, h⟩
        · obtain ⟨q, hq, h⟩ := bd h
          have h := (ifn h).2
          rw [opk, opk, opk] at h
          unfold fRe_findLeaves_123 at h
          rw [opk] at h
          exact Or.inr ⟨c, d, q, hq, h⟩
        · exact Or.inl ⟨Or.inr d, fl_64 h⟩
theorem lv_34 {rc : Nat → cf_O → Option cf_O} {om r : cf_O} (h : fM_leaves_34 rc om = some r) : ((om.1 54).toInt ≤ 0 ∧ r = om) ∨ (0 < (om.1 54).toInt ∧ ∃ w x t : Int32, w = (om.1 54) - 1 ∧ x = om.2.1 55 w.toNatClampNeg ∧ fM_goesApart x (fp om 54 w) = some t ∧ ((t = 0 ∧ rc 0 (fp (xp (fp om 54 w) 53 (om.1 52).toNatClampNeg (om.2.1 51 (x / 2).toNatClampNeg ^^^ (x &&& 1))) 52 ((om.1 52) + 1)) = some r) ∨ (¬ t = 0 ∧ ∃ q : Int32, fM_base (fp om 54 w) = some q ∧ rc 0 (fp (xp (xp (fp om 54 w) 55 w.toNatClampNeg (om.2.1 45 (x / 2 - q).toNatClampNeg)) 55 (w + 1).toNatClampNeg (om.2.1 44 (x / 2 - q).toNatClampNeg)) 54 (w + 2)) = some r))) := by
  unfold fM_leaves_34 at h
  rcases ifc h with ⟨a, h⟩ | ⟨a, h⟩
  · exact Or.inl ⟨c_le a, (Option.some.inj h).symm⟩
  · refine Or.inr ⟨c_nle a, (om.1 54) - 1, om.2.1 55 ((om.1 54) - 1).toNatClampNeg, ?_⟩
    rw [opk, opk] at h
    have h := (ifn h).2
    rw [opk] at h
    obtain ⟨t, ht, h⟩ := bd h
    refine ⟨t, rfl, rfl, ht, ?_⟩
    rcases ifc h with ⟨c, h⟩ | ⟨c, h⟩
    · rw [opk] at h
      have h := (ifn h).2
      rw [opk, opk, opk] at h
      have h := (ifn h).2
      rw [opk, opk, opk] at h
      exact Or.inl ⟨c, h⟩
    · rw [opk] at h
      obtain ⟨q, hq, h⟩ := bd h
      rw [opk] at h
      have h := (ifn h).2
      rw [opk] at h
      have h := (ifn h).2
      rw [opk, opk] at h
      have h := (ifn h).2
      rw [opk] at h
      have h := (ifn h).2
      rw [opk, opk, opk] at h
      exact Or.inr ⟨c, q, hq, h⟩
