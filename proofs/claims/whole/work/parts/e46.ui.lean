def RGq (b n : Nat) (gr om : cf_O) : Prop := ((om.1 43).toInt = (n : Int) ∧ (gr.1 2).toInt = (n : Int) ∧ om.1 39 = gr.1 0 ∧ (gr.1 0).toInt + 1 = (b : Int) ∧ om.1 40 = gr.1 1 ∧ n ≤ 200 ∧ 1 ≤ b ∧ b ≤ 9) ∧ (∀ g : Nat, g < n → om.2.1 44 g = gr.2.1 4 (b + g) ∧ om.2.1 45 g = gr.2.1 5 (b + g)) ∧ (∀ k : Nat, k < b + n → om.2.1 46 k = gr.2.1 6 k ∧ 0 ≤ (gr.2.1 6 k).toInt ∧ (gr.2.1 6 k).toInt ≤ (n : Int)) ∧ (∀ k : Nat, (k : Int) < (gr.1 1).toInt → om.2.1 47 k = gr.2.1 7 k) ∧ (∀ g k : Nat, g < n → k < n → gr.2.1 4 (b + g) = gr.2.1 4 (b + k) → gr.2.1 5 (b + g) = gr.2.1 5 (b + k) → g = k)
def NmR (l : Int64) (f : Nat → Int32) : Prop := ∃ (sg : Nat → Int32) (p t : Int), 0 ≤ p ∧ p < t ∧ Nm sg p t ∧ nv l = pk sg p.toNat (t - p).toNat ∧ ∀ k : Nat, k < 8 → f k = nmS sg p t k
def RNm (nl om : cf_O) : Prop := (∀ i : Nat, (i : Int) < (om.1 39).toInt → NmR (nl.2.2 3 i) (fun k => om.2.1 41 (8 * i + k))) ∧ ∀ i : Nat, (i : Int) < (om.1 40).toInt → NmR (nl.2.2 4 i) (fun k => om.2.1 42 (8 * i + k))
def NaI (nl gr om : cf_O) : Prop := nl.1 0 = gr.1 0 ∧ nl.1 1 = gr.1 1 ∧ RNm nl om
theorem refuse_n {s : Int32} {o : cf_O} (h : ¬ s = 0) : fM_refuse s 0 0 o = some (1, fp o 0 1) := by
  unfold fM_refuse fM_refuse_0
  rw [if_neg h]
  rfl
theorem rd67_f {rc : Nat → Int32 → Int32 → cf_O → Option (Int32 × cf_O)} {v1 : Int32} {o : cf_O} {rm : Int32 × cf_O} (h5 : 0 < (o.1 5).toInt) (h : fM_read_67 rc v1 o = some rm) : rm = (o.1 5, fp o 3 (o.1 6)) := by
  unfold fM_read_67 at h
  rcases ifc h with ⟨a, _⟩ | ⟨_, h⟩
  · have a : (o.1 5).toInt ≤ 0 := c_le a
    omega
  · rw [opk] at h
    exact (Option.some.inj h).symm
theorem rd67_s {rc : Nat → Int32 → Int32 → cf_O → Option (Int32 × cf_O)} {v1 : Int32} {o : cf_O} {rm : Int32 × cf_O} (h5 : o.1 5 = 0) (h : fM_read_67 rc v1 o = some rm) : ∃ bo : cf_O, fM_build_ o = some bo ∧ ((¬ bo.1 36 = 0 ∧ rm = (0, fp (fp bo 0 1) 6 v1)) ∨ (bo.1 36 = 0 ∧ rm.1 = 0 ∧ ∃ r1 r2 : cf_O, fM_takeNames_M41_M11_M12 (bo.1 10) (fp (fp (fp (fp (fp bo 0 0) 3 (-1)) 38 1) 39 (bo.1 10)) 40 (bo.1 13)) = some r1 ∧ fM_takeNames_M42_M14_M15 (r1.1 40) r1 = some r2 ∧ fM_take r2 = some rm.2)) := by
  unfold fM_read_67 at h
  rcases ifc h with ⟨_, h⟩ | ⟨a, _⟩
  · obtain ⟨bo, hb, h⟩ := bd h
    refine ⟨bo, hb, ?_⟩
    by_cases e : bo.1 36 = 0
    · rw [e, refuse_00, Option.bind_some] at h
      rw [if_pos (show ((0 : Int32), fp bo 0 0).1 = 0 from rfl), opk, opk, opk, opk] at h
      obtain ⟨r1, h1, h⟩ := bd h
      obtain ⟨r2, h2, h⟩ := bd h
      obtain ⟨r3, h3, h⟩ := bd h
      have er := (Option.some.inj h).symm
      subst er
      exact Or.inr ⟨e, rfl, r1, r2, h1, h2, h3⟩
    · rw [refuse_n e, Option.bind_some] at h
      rw [if_neg (show ¬ ((1 : Int32), fp bo 0 1).1 = 0 by show ¬ (1 : Int32) = 0; decide), opk] at h
      exact Or.inl ⟨e, (Option.some.inj h).symm⟩
  · rw [h5] at a; exact absurd (by decide) a
def MKp (om rm : cf_O) : Prop := Fr (fr_M [0, 3, 5, 6, 7, 10, 13, 16, 17, 29, 31, 36, 37] [8, 9, 11, 12, 14, 15, 18, 19, 20, 21, 22, 23, 24, 25, 26, 27, 28, 30, 32, 33, 34, 35] []) om rm
def RdC (o0 o4 o6 om : cf_O) (r : Int32 × cf_O × cf_O × cf_O × cf_O × cf_O × cf_O × cf_O × cf_O) (rm : Int32 × cf_O) : Prop :=
  (r.2.1.1 30 = 0 ∧ rm.2.1 0 = 0 ∧ r.1 = rm.1 ∧ r.2.1.1 15 = rm.2.1 3 ∧ ((¬ r.1 = 0 ∧ Fr (fr_M [15, 30] [] []) o0 r.2.1 ∧ r.2.2.2.2.2.1 = o4 ∧ r.2.2.2.2.2.2.2.1 = o6 ∧ MKp om rm.2) ∨ (r.1 = 0 ∧ r.2.1.1 16 = 1 ∧ r.2.1.1 17 = 0 ∧ r.2.1.1 18 = 0 ∧ rm.2.1 38 = 1 ∧ rm.2.1 64 = 0 ∧ rm.2.1 85 = 0 ∧ (∃ b n : Nat, RGq b n r.2.2.2.2.2.2.2.1 rm.2) ∧ NaI r.2.2.2.2.2.1 r.2.2.2.2.2.2.2.1 rm.2))) ∨
  (r.2.1.1 30 = 4 ∧ rm.2.1 0 = 1 ∧ r.2.1.1 15 = o0.1 15 ∧ rm.2.1 3 = om.1 3 ∧ Fr (fr_M [15, 30] [] []) o0 r.2.1 ∧ r.2.2.2.2.2.1 = o4 ∧ r.2.2.2.2.2.2.2.1 = o6 ∧ MKp om rm.2)
theorem NAns_x {sg : Nat → Int32} {n : Nat} {k l : Int} {x y : NXq} (h : NAns sg n k l y) (g : NAns sg n 0 0 x) : k = 0 ∧ y = x := by
  obtain ⟨u1, -, u3⟩ := NAns_u h g
  exact ⟨u1, u3 u1⟩
theorem fr_80 {v1 v2 : Int32} {o0 o1 o2 o3 o4 o5 o6 o7 : cf_O} {r : Int32 × cf_O × cf_O × cf_O × cf_O × cf_O × cf_O × cf_O × cf_O} (h : fF_read_80 v1 v2 o0 o1 o2 o3 o4 o5 o6 o7 = some r) : r = (v1, fp (fp o0 15 v2) 30 0, o1, o2, o3, o4, o5, o6, o7) := by
  unfold fF_read_80 at h
  rw [opk] at h
  exact (Option.some.inj h).symm
theorem fr_53 {v1 v2 : Int32} {o0 o1 o2 o3 o4 o5 o6 o7 : cf_O} {r : Int32 × cf_O × cf_O × cf_O × cf_O × cf_O × cf_O × cf_O × cf_O} (h : fF_read_53 v1 v2 o0 o1 o2 o3 o4 o5 o6 o7 = some r) : r = (v1, fp (fp (fp (fp (fp (fp o0 17 0) 18 0) 30 0) 16 1) 15 v2) 30 0, o1, fp o2 0 0, fp o3 0 0, o5, o4, o7, o6) := by
  unfold fF_read_53 at h
  obtain ⟨q, hq, h⟩ := bd h
  unfold fF_takeSpareNodes fF_takeSpareNodes_0 at hq
  rw [opk, opk, opk, opk] at hq
  have eq := (Option.some.inj hq).symm
  subst eq
  rw [if_pos (show (fp (fp (fp o0 17 0) 18 0) 30 0).1 30 = 0 from rfl)] at h
  unfold fF_read_75 at h
  rw [opk] at h
  exact fr_80 h
theorem fr_35 {v1 v2 : Int32} {o0 o1 o2 o3 o4 o5 o6 o7 : cf_O} {r : Int32 × cf_O × cf_O × cf_O × cf_O × cf_O × cf_O × cf_O × cf_O} (h : fF_read_35 v1 v2 o0 o1 o2 o3 o4 o5 o6 o7 = some r) : (o7.1 3 = 0 ∧ r = (v1, fp (fp (fp (fp (fp (fp o0 17 0) 18 0) 30 0) 16 1) 15 v2) 30 0, o1, fp o2 0 0, fp o3 0 0, o5, o4, o7, o6)) ∨ (¬ o7.1 3 = 0 ∧ r = (0, fp o0 30 4, o1, o2, o3, o4, o5, o6, o7)) := by
  unfold fF_read_35 at h
  rcases ifc h with ⟨a, h⟩ | ⟨a, h⟩
  · unfold fF_read_50 at h
    rw [if_neg (by decide)] at h
    exact Or.inl ⟨a, fr_53 h⟩
  · unfold fF_read_50 at h
    rw [if_pos rfl] at h
    exact Or.inr ⟨a, (Option.some.inj h).symm⟩
