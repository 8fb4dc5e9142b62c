def RA (st : Nat → cf_O) (om : cf_O) : Prop := RT (st 1) om ∧ RLb (st 14) om ∧ W4 (om.2.2 4) ∧ (st 0).1 15 = om.1 3
theorem W4_f {f g : Nat → Int64} (h : W4 f) (e : g = f) : W4 g := by rw [e]; exact h
theorem Lc_e {r rm : Int32 × cf_O} {om : cf_O} (h : LcC r rm om) : ((r.2.1 30 = 0 → rm.2.1 0 = 0) ∧ (r.2.1 30 = 3 → rm.2.1 0 = 1) ∧ (r.2.1 30 = 1 → rm.2.1 0 = 2)) ∧ (r.2.1 30 = 0 → r.1 = rm.1) := by
  rcases h with ⟨a, b, c, _⟩ | ⟨a, b⟩ | ⟨a, b⟩
  · exact ⟨⟨fun _ => b, fun e => by rw [a] at e; exact absurd e (by decide), fun e => by rw [a] at e; exact absurd e (by decide)⟩, fun _ => c⟩
  · refine ⟨⟨fun e => by rw [a] at e; exact absurd e (by decide), fun _ => ?_, fun e => by rw [a] at e; exact absurd e (by decide)⟩, fun e => by rw [a] at e; exact absurd e (by decide)⟩
    rw [b]; rfl
  · refine ⟨⟨fun e => by rw [a] at e; exact absurd e (by decide), fun e => by rw [a] at e; exact absurd e (by decide), fun _ => ?_⟩, fun e => by rw [a] at e; exact absurd e (by decide)⟩
    rw [b]; rfl
theorem Rd_e {o0 o4 o6 om : cf_O} {r : Int32 × cf_O × cf_O × cf_O × cf_O × cf_O × cf_O × cf_O × cf_O} {rm : Int32 × cf_O} (h : RdC o0 o4 o6 om r rm) : ((r.2.1.1 30 = 0 → rm.2.1 0 = 0) ∧ (r.2.1.1 30 = 4 → rm.2.1 0 = 1)) ∧ (r.2.1.1 30 = 0 → r.1 = rm.1) := by
  rcases h with ⟨a, b, c, _⟩ | ⟨a, b, _⟩
  · exact ⟨⟨fun _ => b, fun e => by rw [a] at e; exact absurd e (by decide)⟩, fun _ => c⟩
  · exact ⟨⟨fun e => by rw [a] at e; exact absurd e (by decide), fun _ => b⟩, fun e => by rw [a] at e; exact absurd e (by decide)⟩
theorem Rd_l {o0 o4 o6 om : cf_O} {r : Int32 × cf_O × cf_O × cf_O × cf_O × cf_O × cf_O × cf_O × cf_O} {rm : Int32 × cf_O} (h : RdC o0 o4 o6 om r rm) (e : o0.1 15 = om.1 3) : r.2.1.1 15 = rm.2.1 3 := by
  rcases h with ⟨_, _, _, d, _⟩ | ⟨_, _, c, d, _⟩
  · exact d
  · rw [c, d]; exact e
