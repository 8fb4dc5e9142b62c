theorem sp_c {o0 o1 o2 : cf_O} {q : cf_O × cf_O × cf_O} (h : fF_takeSpareNodes o0 o1 o2 = some q) : q = (fp (fp (fp o0 17 0) 18 0) 30 0, fp o1 0 0, fp o2 0 0) := by
  unfold fF_takeSpareNodes fF_takeSpareNodes_0 at h
  rw [opk, opk, opk, opk] at h
  exact (Option.some.inj h).symm
theorem bal_c {o0 o1 o2 o3 o4 o5 : cf_O} {r : Int32 × cf_O × cf_O × cf_O × cf_O × cf_O × cf_O} (h : fF_balance o0 o1 o2 o3 o4 o5 = some r) : (o0.1 16 = 0 ∧ r = (0, fp o0 30 2, o1, o2, o3, o4, o5)) ∨ (¬ o0.1 16 = 0 ∧ ∃ q : cf_O × cf_O, fRe_makeBalanced o3 o4 o5 = some q ∧ ((q.2.1 3 = 0 ∧ r = (q.2.1 2, fp (fp (fp (fp o0 17 0) 18 0) 30 0) 30 0, fp o1 0 0, fp o2 0 0, q.1, q.2, o4)) ∨ (¬ q.2.1 3 = 0 ∧ r = (0, fp o0 30 4, o1, o2, q.1, o4, q.2)))) := by
  unfold fF_balance fF_balance_0 at h
  rcases ifc h with ⟨a, h⟩ | ⟨a, h⟩
  · exact Or.inl ⟨a, (Option.some.inj h).symm⟩
  · unfold fF_balance_7 at h
    obtain ⟨q, hq, h⟩ := bd h
    refine Or.inr ⟨a, q, hq, ?_⟩
    unfold fF_balance_22 at h
    rcases ifc h with ⟨b, h⟩ | ⟨b, h⟩
    · unfold fF_balance_37 at h
      rw [if_neg (by decide)] at h
      unfold fF_balance_40 at h
      obtain ⟨u, hu, h⟩ := bd h
      have eu := sp_c hu
      subst eu
      rw [if_pos (show (fp (fp (fp o0 17 0) 18 0) 30 0).1 30 = 0 from rfl)] at h
      exact Or.inl ⟨b, (Option.some.inj h).symm⟩
    · unfold fF_balance_37 at h
      rw [if_pos rfl] at h
      exact Or.inr ⟨b, (Option.some.inj h).symm⟩
theorem red_c {o0 o1 o2 o3 o4 o5 : cf_O} {r : Int32 × cf_O × cf_O × cf_O × cf_O × cf_O × cf_O} (h : fF_reduce o0 o1 o2 o3 o4 o5 = some r) : (o0.1 16 = 0 ∧ r = (0, fp o0 30 2, o1, o2, o3, o4, o5)) ∨ (¬ o0.1 16 = 0 ∧ ∃ (p : cf_O) (q : cf_O × cf_O), fFu_find o1 o4 = some p ∧ fRe_makeReduced o3 o4 o5 p = some q ∧ ((q.2.1 3 = 0 ∧ r = (q.2.1 2, fp (fp (fp (fp o0 17 0) 18 0) 30 0) 30 0, fp p 0 0, fp o2 0 0, q.1, q.2, o4)) ∨ (¬ q.2.1 3 = 0 ∧ r = (0, fp o0 30 4, p, o2, q.1, o4, q.2)))) := by
  unfold fF_reduce fF_reduce_0 at h
  rcases ifc h with ⟨a, h⟩ | ⟨a, h⟩
  · exact Or.inl ⟨a, (Option.some.inj h).symm⟩
  · unfold fF_reduce_7 at h
    obtain ⟨p, hp, h⟩ := bd h
    unfold fF_reduce_18 at h
    obtain ⟨q, hq, h⟩ := bd h
    refine Or.inr ⟨a, p, q, hp, hq, ?_⟩
    unfold fF_reduce_37 at h
    rcases ifc h with ⟨b, h⟩ | ⟨b, h⟩
    · unfold fF_reduce_52 at h
      rw [if_neg (by decide)] at h
      unfold fF_reduce_55 at h
      obtain ⟨u, hu, h⟩ := bd h
      have eu := sp_c hu
      subst eu
      rw [if_pos (show (fp (fp (fp o0 17 0) 18 0) 30 0).1 30 = 0 from rfl)] at h
      exact Or.inl ⟨b, (Option.some.inj h).symm⟩
    · unfold fF_reduce_52 at h
      rw [if_pos rfl] at h
      exact Or.inr ⟨b, (Option.some.inj h).symm⟩
theorem rew_c {o0 o1 o2 o3 o4 o5 o6 : cf_O} {r : Int32 × cf_O × cf_O × cf_O × cf_O × cf_O × cf_O × cf_O} (h : fF_rewrite o0 o1 o2 o3 o4 o5 o6 = some r) : (o0.1 16 = 0 ∧ r = (0, fp o0 30 2, o1, o2, o3, o4, o5, o6)) ∨ (¬ o0.1 16 = 0 ∧ ∃ p : Int32 × cf_O, fCu_find 4 o2 o5 = some p ∧ ((p.1 = 0 ∧ r = (0, fp o0 30 4, o1, p.2, o3, o4, o5, o6)) ∨ (¬ p.1 = 0 ∧ ∃ q : cf_O × cf_O × cf_O, fRe_makeRewritten o4 o5 o6 p.2 o3 = some q ∧ ((q.2.1.1 3 = 0 ∧ r = (q.2.1.1 2, fp (fp (fp (fp o0 17 0) 18 0) 30 0) 30 0, fp o1 0 0, fp p.2 0 0, q.2.2, q.1, q.2.1, o5)) ∨ (¬ q.2.1.1 3 = 0 ∧ r = (0, fp o0 30 4, o1, p.2, q.2.2, q.1, o5, q.2.1)))))) := by
  unfold fF_rewrite fF_rewrite_0 at h
  rcases ifc h with ⟨a, h⟩ | ⟨a, h⟩
  · exact Or.inl ⟨a, (Option.some.inj h).symm⟩
  · unfold fF_rewrite_7 at h
    obtain ⟨p, hp, h⟩ := bd h
    refine Or.inr ⟨a, p, hp, ?_⟩
    unfold fF_rewrite_19 at h
    rcases ifc h with ⟨b, h⟩ | ⟨b, h⟩
    · exact Or.inl ⟨b, (Option.some.inj h).symm⟩
    · unfold fF_rewrite_22 at h
      obtain ⟨q, hq, h⟩ := bd h
      refine Or.inr ⟨b, q, hq, ?_⟩
      unfold fF_rewrite_45 at h
      rcases ifc h with ⟨c, h⟩ | ⟨c, h⟩
      · unfold fF_rewrite_60 at h
        rw [if_neg (by decide)] at h
        unfold fF_rewrite_63 at h
        obtain ⟨u, hu, h⟩ := bd h
        have eu := sp_c hu
        subst eu
        rw [if_pos (show (fp (fp (fp o0 17 0) 18 0) 30 0).1 30 = 0 from rfl)] at h
        exact Or.inl ⟨c, (Option.some.inj h).symm⟩
      · unfold fF_rewrite_60 at h
        rw [if_pos rfl] at h
        exact Or.inr ⟨c, (Option.some.inj h).symm⟩
theorem l15_balance {o0 o1 o2 o3 o4 o5 : cf_O} {r : Int32 × cf_O × cf_O × cf_O × cf_O × cf_O × cf_O} (h : fF_balance o0 o1 o2 o3 o4 o5 = some r) : r.2.1.1 15 = o0.1 15 := by
  rcases bal_c h with ⟨_, e⟩ | ⟨_, q, _, ⟨_, e⟩ | ⟨_, e⟩⟩ <;> (subst e; rfl)
theorem l15_reduce {o0 o1 o2 o3 o4 o5 : cf_O} {r : Int32 × cf_O × cf_O × cf_O × cf_O × cf_O × cf_O} (h : fF_reduce o0 o1 o2 o3 o4 o5 = some r) : r.2.1.1 15 = o0.1 15 := by
  rcases red_c h with ⟨_, e⟩ | ⟨_, p, q, _, _, ⟨_, e⟩ | ⟨_, e⟩⟩ <;> (subst e; rfl)
theorem l15_rewrite {o0 o1 o2 o3 o4 o5 o6 : cf_O} {r : Int32 × cf_O × cf_O × cf_O × cf_O × cf_O × cf_O × cf_O} (h : fF_rewrite o0 o1 o2 o3 o4 o5 o6 = some r) : r.2.1.1 15 = o0.1 15 := by
  rcases rew_c h with ⟨_, e⟩ | ⟨_, p, _, ⟨_, e⟩ | ⟨_, q, _, ⟨_, e⟩ | ⟨_, e⟩⟩⟩ <;> (subst e; rfl)
