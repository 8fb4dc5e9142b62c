def RGc (st : Nat → cf_O) (om : cf_O) : Prop := om.1 38 = (st 0).1 16 ∧ ((st 0).1 16 = 0 ∨ ((st 0).1 16 = 1 ∧ ∃ b n : Nat, RGq b n (st 12) om)) ∧ FuI (st 2) (st 12) ∧ CuI (st 3) (st 12) ∧ PbI (st 5)
def RAg (st : Nat → cf_O) (om : cf_O) : Prop := RT (st 1) om ∧ RLb (st 14) om ∧ W4 (om.2.2 4) ∧ (st 0).1 15 = om.1 3 ∧ RGc st om
def RA (st : Nat → cf_O) (om : cf_O) : Prop := RAg st om ∧ RCvQ st om ∧ RMpQ st om
theorem W4_f {f g : Nat → Int64} (h : W4 f) (e : g = f) : W4 g := by rw [e]; exact h
theorem Lc_e {r rm : Int32 × cf_O} {om : cf_O} (h : LcC r rm om) : ((r.2.1 30 = 0 → rm.2.1 0 = 0) ∧ (r.2.1 30 = 3 → rm.2.1 0 = 1) ∧ (r.2.1 30 = 1 → rm.2.1 0 = 2)) ∧ (r.2.1 30 = 0 → r.1 = rm.1) := by
  rcases h with ⟨a, b, c, _⟩ | ⟨a, b⟩ | ⟨a, b⟩
  · exact ⟨⟨fun _ => b, fun e => by rw [a] at e; exact absurd e (by decide), fun e => by rw [a] at e; exact absurd e (by decide)⟩, fun _ => c⟩
  · refine ⟨⟨fun e => by rw [a] at e; exact absurd e (by decide), fun _ => ?_, fun e => by rw [a] at e; exact absurd e (by decide)⟩, fun e => by rw [a] at e; exact absurd e (by decide)⟩
    rw [b]; rfl
  · refine ⟨⟨fun e => by rw [a] at e; exact absurd e (by decide), fun e => by rw [a] at e; exact absurd e (by decide), fun _ => ?_⟩, fun e => by rw [a] at e; exact absurd e (by decide)⟩
    rw [b]; rfl
theorem Rd_e {o0 o4 o6 om : cf_O} {r : Int32 × cf_O × cf_O × cf_O × cf_O × cf_O × cf_O × cf_O × cf_O} {rm : Int32 × cf_O} (h : RdC o0 o4 o6 om r rm) : ((r.2.1.1 30 = 0 → rm.2.1 0 = 0) ∧ (r.2.1.1 30 = 4 → rm.2.1 0 = 1)) ∧ (r.2.1.1 30 = 0 → r.1 = rm.1) := by
  rcases h with ⟨a, b, c, _⟩ | ⟨a, b, _⟩
  · exact ⟨⟨fun _ => b, fun e => by rw [a] at e; exact absurd e (by decide)⟩, fun _ => c⟩
  · exact ⟨⟨fun e => by rw [a] at e; exact absurd e (by decide), fun _ => b⟩, fun e => by rw [a] at e; exact absurd e (by decide)⟩
theorem Rd_l {o0 o4 o6 om : cf_O} {r : Int32 × cf_O × cf_O × cf_O × cf_O × cf_O × cf_O × cf_O × cf_O} {rm : Int32 × cf_O} (h : RdC o0 o4 o6 om r rm) (e : o0.1 15 = om.1 3) : r.2.1.1 15 = rm.2.1 3 := by
  rcases h with ⟨_, _, _, d, _⟩ | ⟨_, _, c, d, _⟩
  · exact d
  · rw [c, d]; exact e
theorem GW_i {b n : Nat} {gr om : cf_O} (k : okO I_Gr gr) (gx : Gx ((gr.1 0).toInt + 1) (gr.1 2).toInt (sh ((gr.1 0).toInt + 1) (gr.2.1 4)) (sh ((gr.1 0).toInt + 1) (gr.2.1 5))) (no : No (gr.1 1).toInt (((gr.1 0).toInt + 1) + (gr.1 2).toInt) (gr.2.1 7)) (R : RGq b n gr om) : GW b n gr := by
  obtain ⟨⟨_, r2, _, r4, _, r6, r7, r8⟩, _⟩ := R
  have k1 : (0 : Int) ≤ (gr.1 1).toInt ∧ (gr.1 1).toInt ≤ 6 := k.1 1
  refine ⟨⟨r4, r2, r6, r7, r8, k1.1, k1.2⟩, fun g hg => ?_, fun j hj => ?_⟩
  · have z := gx g (by omega)
    unfold sh at z
    rw [r4, show ((b : Int) + (g : Int)).toNat = b + g by omega] at z
    exact ⟨z.1, z.2.1, by have := z.2.2; omega⟩
  · have z := no j hj
    have z0 : (0 : Int) ≤ (gr.2.1 7 j).toInt ∧ (gr.2.1 7 j).toInt ≤ 417 := k.2 7 j
    exact ⟨z0.1, by omega⟩
theorem h16_i {st : Nat → cf_O} {om : cf_O} (k : okO I_Gr (st 12)) (gx : Gx (((st 12).1 0).toInt + 1) ((st 12).1 2).toInt (sh (((st 12).1 0).toInt + 1) ((st 12).2.1 4)) (sh (((st 12).1 0).toInt + 1) ((st 12).2.1 5))) (no : No ((st 12).1 1).toInt ((((st 12).1 0).toInt + 1) + ((st 12).1 2).toInt) ((st 12).2.1 7)) (h : RGc st om) : (st 0).1 16 = 0 ∨ ((st 0).1 16 = 1 ∧ ∃ b n : Nat, GW b n (st 12) ∧ RGq b n (st 12) om) := by
  rcases h.2.1 with z | ⟨z, b, n, R⟩
  · exact Or.inl z
  · exact Or.inr ⟨z, b, n, GW_i k gx no R, R⟩
theorem RGc_k {st st2 : Nat → cf_O} {om om2 : cf_O} (h : RGc st om) (e16 : (st2 0).1 16 = (st 0).1 16) (e12 : st2 12 = st 12) (e2 : FuI (st2 2) (st 12)) (e3 : CuI (st2 3) (st 12)) (e5 : PbI (st2 5)) (u38 : om2.1 38 = om.1 38) (u39 : om2.1 39 = om.1 39) (u40 : om2.1 40 = om.1 40) (u43 : om2.1 43 = om.1 43) (u44 : om2.2.1 44 = om.2.1 44) (u45 : om2.2.1 45 = om.2.1 45) (u46 : om2.2.1 46 = om.2.1 46) (u47 : om2.2.1 47 = om.2.1 47) : RGc st2 om2 := by
  unfold RGc
  rw [u38, e16, e12]
  refine ⟨h.1, ?_, e2, e3, e5⟩
  rcases h.2.1 with z | ⟨z, b, n, R⟩
  · exact Or.inl z
  · exact Or.inr ⟨z, b, n, RGq_f R u39 u40 u43 u44 u45 u46 u47⟩
theorem An_2 {F : cf_O} {ra k1 k2 : Int32} {rm : Int32 × cf_O} (h : AnsC [(k1, 1), (k2, 2)] F ra rm) (n1 : ¬ k1 = 0) (n2 : ¬ k2 = 0) (n3 : ¬ k1 = k2) : ((F.1 30 = 0 → rm.2.1 0 = 0) ∧ (F.1 30 = k1 → rm.2.1 0 = 1) ∧ (F.1 30 = k2 → rm.2.1 0 = 2)) ∧ (F.1 30 = 0 → ra = rm.1) := by
  rcases h with ⟨a, b, c⟩ | ⟨p, hp, a, b⟩
  · exact ⟨⟨fun _ => b, fun e => absurd (a.symm.trans e).symm n1, fun e => absurd (a.symm.trans e).symm n2⟩, fun _ => c⟩
  · rcases List.mem_cons.mp hp with e | hp
    · subst e
      exact ⟨⟨fun e => absurd (a.symm.trans e) n1, fun _ => b, fun e => absurd (a.symm.trans e) n3⟩, fun e => absurd (a.symm.trans e) n1⟩
    · have e := List.mem_singleton.mp hp
      subst e
      exact ⟨⟨fun e => absurd (a.symm.trans e) n2, fun e => absurd (a.symm.trans e).symm n3, fun _ => b⟩, fun e => absurd (a.symm.trans e) n2⟩
theorem An_3 {F : cf_O} {ra k1 k2 k3 : Int32} {rm : Int32 × cf_O} (h : AnsC [(k1, 1), (k2, 2), (k3, 3)] F ra rm) (n1 : ¬ k1 = 0) (n2 : ¬ k2 = 0) (n3 : ¬ k3 = 0) (m1 : ¬ k1 = k2) (m2 : ¬ k1 = k3) (m3 : ¬ k2 = k3) : ((F.1 30 = 0 → rm.2.1 0 = 0) ∧ (F.1 30 = k1 → rm.2.1 0 = 1) ∧ (F.1 30 = k2 → rm.2.1 0 = 2) ∧ (F.1 30 = k3 → rm.2.1 0 = 3)) ∧ (F.1 30 = 0 → ra = rm.1) := by
  rcases h with ⟨a, b, c⟩ | ⟨p, hp, a, b⟩
  · exact ⟨⟨fun _ => b, fun e => absurd (a.symm.trans e).symm n1, fun e => absurd (a.symm.trans e).symm n2, fun e => absurd (a.symm.trans e).symm n3⟩, fun _ => c⟩
  · rcases List.mem_cons.mp hp with e | hp
    · subst e
      exact ⟨⟨fun e => absurd (a.symm.trans e) n1, fun _ => b, fun e => absurd (a.symm.trans e) m1, fun e => absurd (a.symm.trans e) m2⟩, fun e => absurd (a.symm.trans e) n1⟩
    · rcases List.mem_cons.mp hp with e | hp
      · subst e
        exact ⟨⟨fun e => absurd (a.symm.trans e) n2, fun e => absurd (a.symm.trans e).symm m1, fun _ => b, fun e => absurd (a.symm.trans e) m3⟩, fun e => absurd (a.symm.trans e) n2⟩
      · have e := List.mem_singleton.mp hp
        subst e
        exact ⟨⟨fun e => absurd (a.symm.trans e) n3, fun e => absurd (a.symm.trans e).symm m2, fun e => absurd (a.symm.trans e).symm m3, fun _ => b⟩, fun e => absurd (a.symm.trans e) n3⟩
theorem Gr_e {o0 F gr gr' om : cf_O} {ra : Int32} {rm : Int32 × cf_O} (h : GrC o0 F gr gr' ra om rm) : ((F.1 30 = 0 → rm.2.1 0 = 0) ∧ (F.1 30 = 2 → rm.2.1 0 = 1) ∧ (F.1 30 = 4 → rm.2.1 0 = 2)) ∧ (F.1 30 = 0 → ra = rm.1) := by
  rcases h with ⟨a, b, c, _⟩ | ⟨⟨a, b⟩ | ⟨a, b⟩, _⟩
  · exact ⟨⟨fun _ => b, fun e => by rw [a] at e; exact absurd e (by decide), fun e => by rw [a] at e; exact absurd e (by decide)⟩, fun _ => c⟩
  · exact ⟨⟨fun e => by rw [a] at e; exact absurd e (by decide), fun _ => b, fun e => by rw [a] at e; exact absurd e (by decide)⟩, fun e => by rw [a] at e; exact absurd e (by decide)⟩
  · exact ⟨⟨fun e => by rw [a] at e; exact absurd e (by decide), fun e => by rw [a] at e; exact absurd e (by decide), fun _ => b⟩, fun e => by rw [a] at e; exact absurd e (by decide)⟩
theorem Gr_r {st st2 : Nat → cf_O} {om : cf_O} {ra : Int32} {rm : Int32 × cf_O} (h : RGc st om) (g : GrC (st 0) (st2 0) (st 12) (st2 12) ra om rm) (m38 : rm.2.1 38 = om.1 38) (e2 : FuI (st2 2) (st2 12)) (e3 : CuI (st2 3) (st2 12)) (e5 : PbI (st2 5)) : RGc st2 rm.2 := by
  rcases g with ⟨_, _, _, e16, _, _, _, _, _, _, x⟩ | ⟨_, e16, _, _, eg, _, _, x⟩
  · refine ⟨by rw [m38, e16]; exact h.1, ?_, e2, e3, e5⟩
    rw [e16]
    rcases h.2.1 with z | ⟨z, _⟩
    · exact Or.inl z
    · exact Or.inr ⟨z, x⟩
  · refine ⟨by rw [m38, e16]; exact h.1, ?_, e2, e3, e5⟩
    rw [e16]
    rcases h.2.1 with z | ⟨z, b, n, R⟩
    · exact Or.inl z
    · exact Or.inr ⟨z, b, n, by rw [eg]; exact x b n R⟩
theorem FuI_f {fu fu2 gr : cf_O} (h : FuI fu gr) (e0 : fu2.1 0 = fu.1 0) (e1 : fu2.2.2 1 = fu.2.2 1) : FuI fu2 gr := by
  unfold FuI FuB at h ⊢
  rw [e0, e1]; exact h
theorem PbI_f {re re2 : cf_O} (h : PbI re) (e8 : re2.2.1 8 = re.2.1 8) (e9 : re2.2.1 9 = re.2.1 9) : PbI re2 := by
  unfold PbI at h ⊢
  rw [e8, e9]; exact h
theorem bal_k {o0 o1 o2 o3 o4 o5 : cf_O} {r : Int32 × cf_O × cf_O × cf_O × cf_O × cf_O × cf_O} (h1 : FuI o1 o4) (h2 : CuI o2 o4) (h3 : PbI o3) (h : fF_balance o0 o1 o2 o3 o4 o5 = some r) : FuI r.2.2.1 r.2.2.2.2.2.1 ∧ CuI r.2.2.2.1 r.2.2.2.2.2.1 ∧ PbI r.2.2.2.2.1 := by
  rcases bal_c h with ⟨_, e⟩ | ⟨_, q, hq, h⟩
  · subst e; exact ⟨h1, h2, h3⟩
  · have f := wF_Re_makeBalanced_o0 hq
    have p : PbI q.1 := PbI_f h3 (f.2.1 8 rfl) (f.2.1 9 rfl)
    rcases h with ⟨_, e⟩ | ⟨_, e⟩
    · subst e; exact ⟨fuI_0 h1, CuI_0 rfl, p⟩
    · subst e; exact ⟨h1, h2, p⟩
theorem red_k {o0 o1 o2 o3 o4 o5 : cf_O} {r : Int32 × cf_O × cf_O × cf_O × cf_O × cf_O × cf_O} (h2 : CuI o2 o4) (h3 : PbI o3) (h : fF_reduce o0 o1 o2 o3 o4 o5 = some r) : CuI r.2.2.2.1 r.2.2.2.2.2.1 ∧ PbI r.2.2.2.2.1 := by
  rcases red_c h with ⟨_, e⟩ | ⟨_, x, q, _, hq, h⟩
  · subst e; exact ⟨h2, h3⟩
  · have f := wF_Re_makeReduced_o0 hq
    have p : PbI q.1 := PbI_f h3 (f.2.1 8 rfl) (f.2.1 9 rfl)
    rcases h with ⟨_, e⟩ | ⟨_, e⟩
    · subst e; exact ⟨CuI_0 rfl, p⟩
    · subst e; exact ⟨h2, p⟩
theorem rd_k {o0 o1 o2 o3 o4 o5 o6 o7 : cf_O} {r : Int32 × cf_O × cf_O × cf_O × cf_O × cf_O × cf_O × cf_O × cf_O} (h : fF_read o0 o1 o2 o3 o4 o5 o6 o7 = some r) : (r.2.2.2.1 = o2 ∧ r.2.2.2.2.1 = o3 ∧ r.2.2.2.2.2.2.2.1 = o6) ∨ (r.2.2.2.1 = fp o2 0 0 ∧ r.2.2.2.2.1 = fp o3 0 0) := by
  have k80 : ∀ (v1 v2 : Int32) (o0 o1 o2 o3 o4 o5 o6 o7 : cf_O), fF_read_80 v1 v2 o0 o1 o2 o3 o4 o5 o6 o7 = some r → r.2.2.2.1 = o2 ∧ r.2.2.2.2.1 = o3 ∧ r.2.2.2.2.2.2.2.1 = o6 := fun v1 v2 o0 o1 o2 o3 o4 o5 o6 o7 z => by
    unfold fF_read_80 at z
    rw [opk] at z
    rw [← Option.some.inj z]; exact ⟨rfl, rfl, rfl⟩
  unfold fF_read fF_read_0 at h
  obtain ⟨q, hq, h⟩ := bd h
  unfold fF_read_11 at h
  rcases ifc h with ⟨_, h⟩ | ⟨_, h⟩
  · obtain ⟨w, hw, h⟩ := bd h
    unfold fF_read_35 at h
    rcases ifc h with ⟨_, h⟩ | ⟨_, h⟩
    · unfold fF_read_50 at h
      rw [if_neg (by decide)] at h
      unfold fF_read_53 at h
      obtain ⟨u, hu, h⟩ := bd h
      have eu := sp_c hu
      subst eu
      rw [if_pos (show (fp (fp (fp o0 17 0) 18 0) 30 0).1 30 = 0 from rfl)] at h
      unfold fF_read_75 at h
      rw [opk] at h
      have z := k80 _ _ _ _ _ _ _ _ _ _ h
      exact Or.inr ⟨z.1, z.2.1⟩
    · unfold fF_read_50 at h
      rw [if_pos rfl] at h
      rw [← Option.some.inj h]; exact Or.inl ⟨rfl, rfl, rfl⟩
  · exact Or.inl (k80 _ _ _ _ _ _ _ _ _ _ h)
theorem Rd_r {st st2 : Nat → cf_O} {om : cf_O} {r : Int32 × cf_O × cf_O × cf_O × cf_O × cf_O × cf_O × cf_O × cf_O} {rm : Int32 × cf_O} (h : RGc st om) (g : RdC (st 0) (st 10) (st 12) om r rm) (hf : fF_read (st 0) (st 1) (st 2) (st 3) (st 10) (st 11) (st 12) (st 13) = some r) (s0 : st2 0 = r.2.1) (s2 : st2 2 = r.2.2.2.1) (s3 : st2 3 = r.2.2.2.2.1) (s12 : st2 12 = r.2.2.2.2.2.2.2.1) (s5 : st2 5 = st 5) : RGc st2 rm.2 := by
  have fc : FuI (st2 2) (st2 12) ∧ CuI (st2 3) (st2 12) := by
    rw [s2, s3, s12]
    rcases rd_k hf with ⟨a, b, c⟩ | ⟨a, b⟩
    · rw [a, b, c]; exact ⟨h.2.2.1, h.2.2.2.1⟩
    · rw [a, b]; exact ⟨fuI_0 h.2.2.1, CuI_0 rfl⟩
  have p5 : PbI (st2 5) := by rw [s5]; exact h.2.2.2.2
  have kp : ∀ (f : Fr (fr_M [15, 30] [] []) (st 0) r.2.1) (e : r.2.2.2.2.2.2.2.1 = st 12) (m : MKp om rm.2), RGc st2 rm.2 := fun f e m => by
    unfold MKp at m
    refine ⟨by rw [s0, m.1 38 rfl, f.1 16 rfl]; exact h.1, ?_, fc.1, fc.2, p5⟩
    rw [s0, s12, f.1 16 rfl, e]
    rcases h.2.1 with z | ⟨z, b, n, R⟩
    · exact Or.inl z
    · exact Or.inr ⟨z, b, n, RGq_f R (m.1 39 rfl) (m.1 40 rfl) (m.1 43 rfl) (m.2.1 44 rfl) (m.2.1 45 rfl) (m.2.1 46 rfl) (m.2.1 47 rfl)⟩
  rcases g with ⟨_, _, _, _, ⟨_, f, _, e, m⟩ | ⟨_, a, _, _, b, _, _, c, _⟩⟩ | ⟨_, _, _, _, f, _, e, m⟩
  · exact kp f e m
  · refine ⟨by rw [s0, a, b], ?_, fc.1, fc.2, p5⟩
    rw [s0, s12]; exact Or.inr ⟨a, c⟩
  · exact kp f e m
theorem dia_k {v1 v2 : Int32} {o0 o1 o2 : cf_O} {r : Int32 × cf_O × cf_O} (h16 : o0.1 16 = 0 ∨ (o0.1 16 = 1 ∧ ∃ b n : Nat, GW b n o2)) (I : FuI o1 o2) (h : fF_diagram v1 v2 o0 o1 o2 = some r) : FuI r.2.2 o2 := by
  unfold fF_diagram fF_diagram_0 at h
  rcases ifc h with ⟨_, h⟩ | ⟨a, h⟩
  · rw [← Option.some.inj h]; exact I
  · obtain ⟨_, b, n, G⟩ := h16.resolve_left a
    have k27 : ∀ s : Int32, fF_diagram_27 v1 v2 s o0 o1 o2 = some r → FuI r.2.2 o2 := fun s h => by
      unfold fF_diagram_27 at h
      rcases ifc h with ⟨_, h⟩ | ⟨_, h⟩
      · rw [← Option.some.inj h]; exact I
      · unfold fF_diagram_30 at h
        obtain ⟨p, hp, h⟩ := bd h
        have Ip := fuI_find G I hp
        unfold fF_diagram_41 at h
        have h := (ifn h).2
        rw [opk] at h
        rcases ifc h with ⟨_, h⟩ | ⟨_, h⟩
        · obtain ⟨q, hq, h⟩ := bd h
          have f := wF_Fu_questions_o0 hq
          rw [← Option.some.inj h]
          exact FuI_f Ip (f.1 0 rfl) (f.2.2 1 rfl)
        · rcases ifc h with ⟨_, h⟩ | ⟨_, h⟩
          · obtain ⟨q, hq, h⟩ := bd h
            rw [← Option.some.inj h]; exact Ip
          · rcases ifc h with ⟨_, h⟩ | ⟨_, h⟩
            · obtain ⟨q, hq, h⟩ := bd h
              rw [← Option.some.inj h]; exact Ip
            · rcases ifc h with ⟨_, h⟩ | ⟨_, h⟩
              · obtain ⟨q, hq, h⟩ := bd h
                rw [← Option.some.inj h]; exact Ip
              · rw [← Option.some.inj h]; exact Ip
    unfold fF_diagram_7 at h
    rcases ifc h with ⟨_, h⟩ | ⟨_, h⟩
    · exact k27 _ h
    · rcases ifc h with ⟨_, h⟩ | ⟨_, h⟩
      · exact k27 _ h
      · exact k27 _ h
theorem find_k {K : Nat} {v : Int32} {cu gr : cf_O} {p : Int32 × cf_O} (hG : ∃ b n : Nat, GW b n gr) (hK : 2 ≤ K) (hK5 : K ≤ 5) (e : v.toInt = (K : Int)) (hl : 0 ≤ (cu.1 4).toInt ∧ cu.1 4 = cu.1 5) (hC : CuI cu gr) (h : fCu_find v cu gr = some p) : CuI p.2 gr := by
  obtain ⟨b, n, G⟩ := hG
  exact CuI_f G e (fnd_sp G e hK hK5 hl (fun z => hC K b n hK hK5 (by rw [z]; exact e) G) h)
theorem cvb_k {v1 v2 : Int32} {o0 o1 o2 o3 o4 o5 o6 : cf_O} {r : Int32 × cf_O × cf_O × cf_O × cf_O × cf_O} (h16 : o0.1 16 = 0 ∨ (o0.1 16 = 1 ∧ ∃ b n : Nat, GW b n o5)) (hl : 0 ≤ (o1.1 4).toInt ∧ o1.1 4 = o1.1 5) (hC : CuI o1 o5) (h : fF_coverBy v1 v2 o0 o1 o2 o3 o4 o5 o6 = some r) : CuI r.2.2.1 o5 := by
  unfold fF_coverBy fF_coverBy_0 at h
  rcases ifc h with ⟨_, h⟩ | ⟨a, h⟩
  · rw [← Option.some.inj h]; exact hC
  · have G := (h16.resolve_left a).2
    unfold fF_coverBy_7 at h
    rcases ifc h with ⟨_, h⟩ | ⟨c, h⟩
    · rw [← Option.some.inj h]; exact hC
    · rcases ifc h with ⟨d, h⟩ | ⟨_, h⟩
      · have c : ¬ v1.toInt < 2 := fun q => c (Int32.lt_iff_toInt_lt.mpr q)
        have d : v1.toInt ≤ 5 := c_le d
        obtain ⟨p, hp, h⟩ := bd h
        have Cp := find_k (K := v1.toInt.toNat) G (by omega) (by omega) (by omega) hl hC hp
        unfold fF_coverBy_37 at h
        rcases ifc h with ⟨_, h⟩ | ⟨_, h⟩
        · rw [← Option.some.inj h]; exact Cp
        · unfold fF_coverBy_40 at h
          obtain ⟨q, hq, h⟩ := bd h
          unfold fF_coverBy_60 at h
          rw [opk, opk] at h
          rw [← Option.some.inj h]; exact Cp
      · rw [← Option.some.inj h]; exact hC
theorem cvf_k {v1 : Int32} {o0 o1 o2 o3 o4 o5 o6 : cf_O} {r : Int32 × cf_O × cf_O × cf_O × cf_O × cf_O} (h16 : o0.1 16 = 0 ∨ (o0.1 16 = 1 ∧ ∃ b n : Nat, GW b n o5)) (hl : 0 ≤ (o1.1 4).toInt ∧ o1.1 4 = o1.1 5) (hC : CuI o1 o5) (h : fF_coverFew v1 o0 o1 o2 o3 o4 o5 o6 = some r) : CuI r.2.2.1 o5 := by
  unfold fF_coverFew fF_coverFew_0 at h
  obtain ⟨q, hq, h⟩ := bd h
  have z := cvb_k h16 hl hC hq
  rcases ifc h with ⟨_, h⟩ | ⟨_, h⟩
  · unfold fF_coverFew_6 at h
    rw [← Option.some.inj h]; exact z
  · rw [← Option.some.inj h]; exact z
theorem cov_k {v1 : Int32} {o0 o1 o2 o3 o4 o5 o6 : cf_O} {r : Int32 × cf_O × cf_O × cf_O × cf_O × cf_O} (h16 : o0.1 16 = 0 ∨ (o0.1 16 = 1 ∧ ∃ b n : Nat, GW b n o5)) (hl : 0 ≤ (o1.1 4).toInt ∧ o1.1 4 = o1.1 5) (hC : CuI o1 o5) (h : fF_cover v1 o0 o1 o2 o3 o4 o5 o6 = some r) : CuI r.2.2.1 o5 := by
  unfold fF_cover fF_cover_0 at h
  obtain ⟨q, hq, h⟩ := bd h
  have z := cvb_k h16 hl hC hq
  rcases ifc h with ⟨_, h⟩ | ⟨_, h⟩
  · unfold fF_cover_6 at h
    rw [← Option.some.inj h]; exact z
  · rw [← Option.some.inj h]; exact z
theorem map_k {o0 o1 o2 o3 o4 o5 o6 o7 : cf_O} {r : Int32 × cf_O × cf_O × cf_O × cf_O × cf_O} (h16 : o0.1 16 = 0 ∨ (o0.1 16 = 1 ∧ ∃ b n : Nat, GW b n o5)) (hl : 0 ≤ (o1.1 4).toInt ∧ o1.1 4 = o1.1 5) (hC : CuI o1 o5) (h : fF_map o0 o1 o2 o3 o4 o5 o6 o7 = some r) : CuI r.2.2.1 o5 := by
  unfold fF_map fF_map_0 at h
  have k21 : fF_map_21 o0 o1 o2 o3 o4 o5 o6 o7 = some r → CuI r.2.2.1 o5 := fun h => by
    unfold fF_map_21 fF_map_22 at h
    rw [if_pos rfl] at h
    rw [← Option.some.inj h]; exact hC
  rcases ifc h with ⟨_, h⟩ | ⟨a, h⟩
  · exact k21 h
  · have G := (h16.resolve_left a).2
    rcases ifc h with ⟨_, h⟩ | ⟨_, h⟩
    · exact k21 h
    · unfold fF_map_22 at h
      rw [if_neg (by decide)] at h
      unfold fF_map_25 at h
      obtain ⟨p, hp, h⟩ := bd h
      have Cp := find_k (K := 3) G (by omega) (by omega) rfl hl hC hp
      unfold fF_map_37 at h
      rcases ifc h with ⟨_, h⟩ | ⟨_, h⟩
      · rw [← Option.some.inj h]; exact Cp
      · unfold fF_map_40 at h
        rw [opk] at h
        obtain ⟨q, hq, h⟩ := bd h
        unfold fF_map_72 at h
        have h := (ifn h).2
        rw [opk] at h
        rcases ifc h with ⟨_, h⟩ | ⟨_, h⟩
        · unfold fF_map_93 at h
          rw [← Option.some.inj h]; exact Cp
        · unfold fF_map_93 at h
          rw [← Option.some.inj h]; exact Cp
theorem h16_g {st : Nat → cf_O} {om : cf_O} (h : (st 0).1 16 = 0 ∨ ((st 0).1 16 = 1 ∧ ∃ b n : Nat, GW b n (st 12) ∧ RGq b n (st 12) om)) : (st 0).1 16 = 0 ∨ ((st 0).1 16 = 1 ∧ ∃ b n : Nat, GW b n (st 12)) := by
  rcases h with z | ⟨z, b, n, G, _⟩
  · exact Or.inl z
  · exact Or.inr ⟨z, b, n, G⟩
theorem len_i {cu : cf_O} (k : okO I_Cu cu) (h : (cu.1 4).toInt = (cu.1 5).toInt) (l : (cu.1 3).toInt ≤ (cu.1 4).toInt) : 0 ≤ (cu.1 4).toInt ∧ cu.1 4 = cu.1 5 := by
  have k3 : (0 : Int) ≤ (cu.1 3).toInt := (k.1 3).1
  exact ⟨by omega, Int32.toInt_inj.mp h⟩
theorem l16_library {o0 o1 o2 o3 : cf_O} {r : Int32 × cf_O × cf_O × cf_O × cf_O} (h : fF_library o0 o1 o2 o3 = some r) : r.2.1.1 16 = o0.1 16 := by
  unfold fF_library fF_library_0 at h
  obtain ⟨q, hq, h⟩ := bd h
  unfold fF_library_11 at h
  rcases ifc h with ⟨_, h⟩ | ⟨_, h⟩
  · rw [opk, opk] at h
    unfold fF_library_58 at h
    rw [← Option.some.inj h]; rfl
  · rw [opk] at h
    unfold fF_library_58 at h
    rw [← Option.some.inj h]; rfl
theorem l17_library {o0 o1 o2 o3 : cf_O} {r : Int32 × cf_O × cf_O × cf_O × cf_O} (h : fF_library o0 o1 o2 o3 = some r) : r.2.1.1 17 = o0.1 17 := by
  unfold fF_library fF_library_0 at h
  obtain ⟨q, hq, h⟩ := bd h
  unfold fF_library_11 at h
  rcases ifc h with ⟨_, h⟩ | ⟨_, h⟩
  · rw [opk, opk] at h
    unfold fF_library_58 at h
    rw [← Option.some.inj h]; rfl
  · rw [opk] at h
    unfold fF_library_58 at h
    rw [← Option.some.inj h]; rfl
theorem An_1 {F : cf_O} {ra k1 : Int32} {rm : Int32 × cf_O} (h : AnsC [(k1, 1)] F ra rm) (n1 : ¬ k1 = 0) : ((F.1 30 = 0 → rm.2.1 0 = 0) ∧ (F.1 30 = k1 → rm.2.1 0 = 1)) ∧ (F.1 30 = 0 → ra = rm.1) := by
  rcases h with ⟨a, b, c⟩ | ⟨p, hp, a, b⟩
  · exact ⟨⟨fun _ => b, fun e => absurd (a.symm.trans e).symm n1⟩, fun _ => c⟩
  · have e := List.mem_singleton.mp hp
    subst e
    exact ⟨⟨fun e => absurd (a.symm.trans e) n1, fun _ => b⟩, fun e => absurd (a.symm.trans e) n1⟩
theorem hG_o {x : Int32} {P : Prop} (h : x = 0 ∨ (x = 1 ∧ P)) (e : x = 1) : P := by
  rcases h with y | y
  · rw [e] at y; exact absurd y (by decide)
  · exact y.2
theorem h01_o {x : Int32} {P : Prop} (h : x = 0 ∨ (x = 1 ∧ P)) : x = 0 ∨ x = 1 := h.imp id And.left
theorem h38_o {a b : Int32} {P : Prop} (e : a = b) (h : b = 0 ∨ (b = 1 ∧ P)) : a = 0 ∨ (a = 1 ∧ P) := by rw [e]; exact h
theorem z9_0 {a : Int32} (h : (0 : Int) ≤ a.toInt ∧ a.toInt ≤ 0) : a = 0 := Int32.toInt_inj.mp (show a.toInt = (0 : Int) by omega)
theorem z9_e {a b : Int32} (h : (0 : Int) ≤ a.toInt ∧ a.toInt ≤ 0) (h2 : (0 : Int) ≤ b.toInt ∧ b.toInt ≤ 0) : b = a := (z9_0 h2).trans (z9_0 h).symm
theorem b6_i {mp : cf_O} (k : okO I_Mp mp) (y : Nat) : mp.2.1 6 y = 0 ∨ mp.2.1 6 y = 1 := by
  have z : (0 : Int) ≤ (mp.2.1 6 y).toInt ∧ (mp.2.1 6 y).toInt ≤ 1 := k.2 6 y
  rcases (by omega : (mp.2.1 6 y).toInt = 0 ∨ (mp.2.1 6 y).toInt = 1) with e | e
  · exact Or.inl (Int32.toInt_inj.mp e)
  · exact Or.inr (Int32.toInt_inj.mp e)
theorem cvS_o {F gr cv om : cf_O} (h : CvI F gr cv om) : om.1 64 = 0 ∨ (om.1 64 = 1 ∧ CvS gr cv om) := by rw [← h.1]; exact h.2
theorem rd_d {o0 o1 o2 o3 o4 o5 o6 o7 : cf_O} {r : Int32 × cf_O × cf_O × cf_O × cf_O × cf_O × cf_O × cf_O × cf_O} (h : fF_read o0 o1 o2 o3 o4 o5 o6 o7 = some r) : r.2.2.2.2.1.2.1 1 0 = o3.2.1 1 0 := by
  rcases rd_k h with ⟨_, e, _⟩ | ⟨_, e⟩
  · rw [e]
  · rw [e]; rfl
theorem cover_96 {v1 : Int32} {gr om : cf_O} {rm : Int32 × cf_O} (ho : okO I_M om) (hG : om.1 38 = 0 ∨ (om.1 38 = 1 ∧ ∃ b n : Nat, GW b n gr ∧ RGq b n gr om)) (f95 : (0 : Int) ≤ (om.1 95).toInt ∧ (om.1 95).toInt ≤ 0) (hcn : Cn (om.2.1 59) (om.2.1 58)) (h : fM_cover v1 om = some rm) : rm.2.1 96 = om.1 96 ∧ rm.2.2.1 97 = om.2.1 97 := ⟨(wYF_M_cover (z9_0 f95) h).1 96 rfl, (wYF_M_cover (z9_0 f95) h).2.1 97 rfl⟩
theorem coverFew_96 {v1 : Int32} {gr om : cf_O} {rm : Int32 × cf_O} (ho : okO I_M om) (hG : om.1 38 = 0 ∨ (om.1 38 = 1 ∧ ∃ b n : Nat, GW b n gr ∧ RGq b n gr om)) (f95 : (0 : Int) ≤ (om.1 95).toInt ∧ (om.1 95).toInt ≤ 0) (hcn : Cn (om.2.1 59) (om.2.1 58)) (h : fM_coverFew v1 om = some rm) : rm.2.1 96 = om.1 96 ∧ rm.2.2.1 97 = om.2.1 97 := ⟨(wYF_M_coverFew (z9_0 f95) h).1 96 rfl, (wYF_M_coverFew (z9_0 f95) h).2.1 97 rfl⟩
