def TLp (O : cf_O) (sg : Nat → Int32) (n p : Int) (r : Int32 × cf_O) : Prop := Fr (fr_M [7] [8, 9] []) O r.2 ∧ Fob (chh 10 sg) n p r.1.toInt ∧ TK sg n p (r.2.1 7).toInt (r.2.2.1 8) (r.2.2.1 9) ∧ p ≤ r.1.toInt ∧ 0 ≤ (r.2.1 7).toInt
theorem ix_b {v : Int32} {N : Nat} (h : ¬ (v < 0 ∨ N ≤ v.toNatClampNeg)) : 0 ≤ v.toInt ∧ v.toInt < N := by
  have h1 : 0 ≤ v.toInt := by
    have : ¬ v < 0 := fun q => h (Or.inl q)
    exact c_nlt this
  have h2 : ¬ N ≤ v.toNatClampNeg := fun q => h (Or.inr q)
  have := tn_n v
  omega
theorem takeLine_go {O : cf_O} {sg : Nat → Int32} {n p : Int} (p0 : 0 ≤ p) : ∀ fuel : Nat,
    (∀ (v1 v2 : Int32) (o : cf_O) (r : Int32 × cf_O), Fr (fr_M [7] [8, 9] []) O o → o.2.1 1 = sg → (o.1 2).toInt = n → v1.toInt = p → p ≤ v2.toInt → Fl (chh 10 sg) n p v2.toInt → gM_takeLine fuel 0 v1 v2 0 0 o = some r → TLp O sg n p r) ∧
    (∀ (v1 v2 v3 : Int32) (o : cf_O) (r : Int32 × cf_O), Fr (fr_M [7] [8, 9] []) O o → o.2.1 1 = sg → v1.toInt = p → p ≤ v3.toInt → v3.toInt ≤ v2.toInt → Fob (chh 10 sg) n p v2.toInt → Fl (chh 35 sg) v2.toInt p v3.toInt → gM_takeLine fuel 1 v1 v2 v3 0 o = some r → TLp O sg n p r) ∧
    (∀ (v2 v3 v4 : Int32) (o : cf_O) (r : Int32 × cf_O), Fr (fr_M [7] [8, 9] []) O o → o.2.1 1 = sg → p ≤ v4.toInt → v4.toInt ≤ v3.toInt → p ≤ v2.toInt → Fob (chh 10 sg) n p v2.toInt → Fob (chh 35 sg) v2.toInt p v3.toInt → 0 ≤ (o.1 7).toInt → Wk sg p v3.toInt (o.1 7).toInt v4.toInt (o.2.1 8) (o.2.1 9) → gM_takeLine fuel 2 0 v2 v3 v4 o = some r → TLp O sg n p r) ∧
    (∀ (v2 v3 v4 : Int32) (o : cf_O) (r : Int32 × cf_O), Fr (fr_M [7] [8, 9] []) O o → o.2.1 1 = sg → p ≤ v4.toInt → v4.toInt ≤ v3.toInt → p ≤ v2.toInt → Fob (chh 10 sg) n p v2.toInt → Fob (chh 35 sg) v2.toInt p v3.toInt → 0 ≤ (o.1 7).toInt → Wk sg p v3.toInt (o.1 7).toInt v4.toInt (o.2.1 8) (o.2.1 9) → gM_takeLine fuel 3 0 v2 v3 v4 o = some r → TLp O sg n p r) ∧
    (∀ (v2 v3 v4 : Int32) (o : cf_O) (r : Int32 × cf_O), Fr (fr_M [7] [8, 9] []) O o → o.2.1 1 = sg → p ≤ v4.toInt → v4.toInt ≤ v3.toInt → p ≤ v2.toInt → Fob (chh 10 sg) n p v2.toInt → Fob (chh 35 sg) v2.toInt p v3.toInt → 0 ≤ (o.1 7).toInt → Wiq sg p v3.toInt (o.1 7).toInt v4.toInt (o.2.1 8) (o.2.1 9) → gM_takeLine fuel 4 0 v2 v3 v4 o = some r → TLp O sg n p r)
  | 0 => ⟨fun _ _ _ _ _ _ _ _ _ _ h => (by cases h), fun _ _ _ _ _ _ _ _ _ _ _ _ h => (by cases h), fun _ _ _ _ _ _ _ _ _ _ _ _ _ _ h => (by cases h), fun _ _ _ _ _ _ _ _ _ _ _ _ _ _ h => (by cases h), fun _ _ _ _ _ _ _ _ _ _ _ _ _ _ h => (by cases h)⟩
  | fuel + 1 => by
    obtain ⟨i0, i1, i2, i3, i4⟩ := takeLine_go (O := O) (sg := sg) (n := n) (p := p) p0 fuel
    refine ⟨?_, ?_, ?_, ?_, ?_⟩
    · intro v1 v2 o r rO hs hn e1 h1 hl h
      have h : (if (o.1 2) ≤ v2 then gM_takeLine fuel 1 v1 v2 v1 0 o else (if v2 < 0 ∨ 1600 ≤ v2.toNatClampNeg then none else (if o.2.1 1 v2.toNatClampNeg = (10 : Int32) then gM_takeLine fuel 1 v1 v2 v1 0 o else gM_takeLine fuel 0 v1 (v2 + 1) 0 0 o))) = some r := h
      rcases ifc h with ⟨c, h⟩ | ⟨c, h⟩
      · have c := c_le c
        exact i1 v1 v2 v1 o r rO hs e1 (by omega) (by omega) (Fl_e hl (Or.inl (by omega))) (Fl_r e1) h
      · have c := c_nle c
        obtain ⟨g, h⟩ := ifn h
        have g := ix_b g
        rcases ifc h with ⟨d, h⟩ | ⟨d, h⟩
        · exact i1 v1 v2 v1 o r rO hs e1 (by omega) (by omega) (Fl_e hl (Or.inr (ch_t (by rw [← hs]; exact c_eq d)))) (Fl_r e1) h
        · have e2 := p_1 (v := v2) g.1 (by omega)
          exact i0 v1 (v2 + 1) o r rO hs hn e1 (by omega) (Fl_s hl g.1 (by omega) (ch_f (by rw [← hs]; exact c_ne d)) e2) h
    · intro v1 v2 v3 o r rO hs e1 h1 h2 ho hl h
      have h : (if v2 ≤ v3 then gM_takeLine fuel 2 0 v2 v3 v1 (fp o 7 0) else (if v3 < 0 ∨ 1600 ≤ v3.toNatClampNeg then none else (if o.2.1 1 v3.toNatClampNeg = (35 : Int32) then gM_takeLine fuel 2 0 v2 v3 v1 (fp o 7 0) else gM_takeLine fuel 1 v1 v2 (v3 + 1) 0 o))) = some r := h
      have go : Fob (chh 35 sg) v2.toInt p v3.toInt → gM_takeLine fuel 2 0 v2 v3 v1 (fp o 7 0) = some r → TLp O sg n p r := fun q h => i2 v2 v3 v1 (fp o 7 0) r (fr_fp rO rfl) hs (by omega) (by omega) (by omega) ho q (by show (0 : Int) ≤ (0 : Int32).toInt; decide) (Wk_r rfl e1) h
      rcases ifc h with ⟨c, h⟩ | ⟨c, h⟩
      · have c := c_le c
        exact go (Fl_e hl (Or.inl (by omega))) h
      · have c := c_nle c
        obtain ⟨g, h⟩ := ifn h
        have g := ix_b g
        rcases ifc h with ⟨d, h⟩ | ⟨d, h⟩
        · exact go (Fl_e hl (Or.inr (ch_t (by rw [← hs]; exact c_eq d)))) h
        · have e2 := p_1 (v := v3) g.1 (by omega)
          exact i1 v1 v2 (v3 + 1) o r rO hs e1 (by omega) (by omega) ho (Fl_s hl g.1 (by omega) (ch_f (by rw [← hs]; exact c_ne d)) e2) h
    · intro v2 v3 v4 o r rO hs h1 h2 h3 ho hq hk hw h
      have h : (if v3 ≤ v4 then some (v2, o) else gM_takeLine fuel 3 0 v2 v3 v4 o) = some r := h
      rcases ifc h with ⟨c, h⟩ | ⟨c, h⟩
      · have c := c_le c
        rw [← Option.some.inj h]
        exact ⟨rO, ho, TK_e hw (by omega) (by omega) ho hq, h3, hk⟩
      · exact i3 v2 v3 v4 o r rO hs h1 h2 h3 ho hq hk hw h
    · intro v2 v3 v4 o r rO hs h1 h2 h3 ho hq hk hw h
      have h : (if v3 ≤ v4 then fM_takeLine_89 (gM_takeLine fuel) v2 v3 v4 o else (if v4 < 0 ∨ 1600 ≤ v4.toNatClampNeg then none else (if o.2.1 1 v4.toNatClampNeg = (32 : Int32) then gM_takeLine fuel 3 0 v2 v3 (v4 + 1) o else fM_takeLine_89 (gM_takeLine fuel) v2 v3 v4 o))) = some r := h
      rcases ifc h with ⟨c, h⟩ | ⟨c, h⟩
      · have c := c_le c
        have h : (if v3 ≤ v4 then gM_takeLine fuel 2 0 v2 v3 v4 o else _) = some r := h
        rcases ifc h with ⟨d, h⟩ | ⟨d, h⟩
        · exact i2 v2 v3 v4 o r rO hs h1 h2 h3 ho hq hk hw h
        · have d := c_nle d; omega
      · have c := c_nle c
        obtain ⟨g, h⟩ := ifn h
        have g := ix_b g
        rcases ifc h with ⟨d, h⟩ | ⟨d, h⟩
        · have e2 := p_1 (v := v4) g.1 (by omega)
          exact i3 v2 v3 (v4 + 1) o r rO hs (by omega) (by omega) h3 ho hq hk (Wk_s hw g.1 (by omega) (by rw [← hs]; exact c_eq d) e2) h
        · have h : (if v3 ≤ v4 then gM_takeLine fuel 2 0 v2 v3 v4 o else (if (o.1 7) < 0 ∨ 801 ≤ (o.1 7).toNatClampNeg then none else gM_takeLine fuel 4 0 v2 v3 v4 (xp o 8 (o.1 7).toNatClampNeg v4))) = some r := h
          rcases ifc h with ⟨e, h⟩ | ⟨e, h⟩
          · have e := c_le e; omega
          · exact i4 v2 v3 v4 (xp o 8 (o.1 7).toNatClampNeg v4) r (fr_xp rO rfl) hs h1 h2 h3 ho hq hk (Wi_0 hw g.1 (by omega) (by rw [← hs]; exact c_ne d)) (ifn h).2
    · intro v2 v3 v4 o r rO hs h1 h2 h3 ho hq hk hw h
      have h : (if v3 ≤ v4 then fM_takeLine_130 (gM_takeLine fuel) v2 v3 v4 o else (if v4 < 0 ∨ 1600 ≤ v4.toNatClampNeg then none else (if o.2.1 1 v4.toNatClampNeg = (32 : Int32) then fM_takeLine_130 (gM_takeLine fuel) v2 v3 v4 o else gM_takeLine fuel 4 0 v2 v3 (v4 + 1) o))) = some r := h
      have en : (v3.toInt ≤ v4.toInt ∨ (sg v4.toNatClampNeg).toInt = 32) → fM_takeLine_130 (gM_takeLine fuel) v2 v3 v4 o = some r → TLp O sg n p r := fun q h => by
        obtain ⟨g, h⟩ := ifn (show (if (o.1 7) < 0 ∨ 801 ≤ (o.1 7).toNatClampNeg then none else gM_takeLine fuel 2 0 v2 v3 v4 (fp (xp o 9 (o.1 7).toNatClampNeg v4) 7 ((o.1 7) + 1))) = some r from h)
        have g := ix_b g
        have e7 : ((o.1 7) + 1).toInt = (o.1 7).toInt + 1 := p_1 g.1 (by omega)
        exact i2 v2 v3 v4 (fp (xp o 9 (o.1 7).toNatClampNeg v4) 7 ((o.1 7) + 1)) r (fr_fp (fr_xp rO rfl) rfl) hs h1 h2 h3 ho hq (by show 0 ≤ ((o.1 7) + 1).toInt; omega) (Wi_e hw (by omega) q g.1 e7) h
      rcases ifc h with ⟨c, h⟩ | ⟨c, h⟩
      · exact en (Or.inl (c_le c)) h
      · have c := c_nle c
        obtain ⟨g, h⟩ := ifn h
        have g := ix_b g
        rcases ifc h with ⟨d, h⟩ | ⟨d, h⟩
        · exact en (Or.inr (by rw [← hs]; exact c_eq d)) h
        · have e2 := p_1 (v := v4) g.1 (by omega)
          exact i4 v2 v3 (v4 + 1) o r rO hs (by omega) (by omega) h3 ho hq hk (Wi_s hw g.1 (by omega) (by rw [← hs]; exact c_ne d) e2) h
theorem takeLine_sp {v1 : Int32} {o : cf_O} {r : Int32 × cf_O} (h0 : 0 ≤ v1.toInt) (h : fM_takeLine v1 o = some r) : TLp o (o.2.1 1) (o.1 2).toInt v1.toInt r :=
  (takeLine_go h0 cfFU).1 v1 v1 o r fr_rfl rfl rfl rfl (Int.le_refl _) Fl_0 h
theorem splitLine_go {O : cf_O} {sg : Nat → Int32} {n p : Int} : ∀ (fuel : Nat) (v1 v2 v3 : Int32) (o r : cf_O), Fr (fr_M [5, 6] [1, 2] []) O o → o.2.1 0 = sg → (o.1 3).toInt = n → 0 ≤ v3.toInt → v3.toInt ≤ 1601 → Fl (chh 10 sg) n p v3.toInt → SLq sg n p v1.toInt v2.toInt v3.toInt (o.1 5).toInt (o.2.1 1) (o.2.1 2) → gTx_splitLine fuel 0 v1 v2 v3 o = some r → Fr (fr_M [5, 6] [1, 2] []) O r ∧ Fob (chh 10 sg) n p ((r.1 6).toInt - 1) ∧ TC sg n p (r.1 5).toInt (r.2.1 1) (r.2.1 2)
  | 0, v1, v2, v3, o, r, rO, hs, hn, h0, h1, hl, hS, h => by cases h
  | fuel + 1, v1, v2, v3, o, r, rO, hs, hn, h0, h1, hl, hS, h => by
    have z0 : (0 : Int32).toInt = 0 := rfl
    have z1 : ¬ (1 : Int32).toInt = 0 := by decide
    have en : (n ≤ v3.toInt ∨ (sg v3.toNatClampNeg).toInt = 10) → some (fp o 6 (v3 + 1)) = some r → Fr (fr_M [5, 6] [1, 2] []) O r ∧ Fob (chh 10 sg) n p ((r.1 6).toInt - 1) ∧ TC sg n p (r.1 5).toInt (r.2.1 1) (r.2.1 2) := fun q h => by
      rw [← Option.some.inj h]
      have e6 : ((fp o 6 (v3 + 1)).1 6).toInt - 1 = v3.toInt := by
        show (v3 + 1).toInt - 1 = v3.toInt
        have : (v3 + 1).toInt = v3.toInt + 1 := by rw [Int32.toInt_add, i_bm (by rw [show (1 : Int32).toInt = 1 from rfl]; omega) (by rw [show (1 : Int32).toInt = 1 from rfl]; omega)]; rfl
        omega
      rw [e6]
      exact ⟨fr_fp rO rfl, Fl_e hl (q.imp id (fun z => ch_t z)), TC_e hS hl h0 q⟩
    have h : (if (o.1 3) ≤ v3 then some (fp o 6 (v3 + 1)) else (if v3 < 0 ∨ 1600 ≤ v3.toNatClampNeg then none else (if o.2.1 0 v3.toNatClampNeg = (10 : Int32) then some (fp o 6 (v3 + 1)) else (if v1 = (0 : Int32) then fTx_splitLine_52 (gTx_splitLine fuel) v2 v3 o else (if v3 < 0 ∨ 1600 ≤ v3.toNatClampNeg then none else (if o.2.1 0 v3.toNatClampNeg = (35 : Int32) then fTx_splitLine_52 (gTx_splitLine fuel) v2 v3 o else fTx_splitLine_53 (gTx_splitLine fuel) v2 v3 1 o)))))) = some r := h
    rcases ifc h with ⟨c, h⟩ | ⟨c, h⟩
    · exact en (Or.inl (by have := c_le c; omega)) h
    · have c := c_nle c
      obtain ⟨g, h⟩ := ifn h
      have g := ix_b g
      rcases ifc h with ⟨d, h⟩ | ⟨d, h⟩
      · exact en (Or.inr (by rw [← hs]; exact c_eq d)) h
      · have h10 : ¬ (sg v3.toNatClampNeg).toInt = 10 := by rw [← hs]; exact c_ne d
        have e3 := p_1 (v := v3) g.1 (by omega)
        have hl2 := Fl_s hl g.1 (by omega) (ch_f h10) e3
        have k0 : SLq sg n p (0 : Int32).toInt (0 : Int32).toInt (v3 + 1).toInt (o.1 5).toInt (o.2.1 1) (o.2.1 2) → fTx_splitLine_52 (gTx_splitLine fuel) v2 v3 o = some r → Fr (fr_M [5, 6] [1, 2] []) O r ∧ Fob (chh 10 sg) n p ((r.1 6).toInt - 1) ∧ TC sg n p (r.1 5).toInt (r.2.1 1) (r.2.1 2) := fun q h => splitLine_go fuel 0 0 (v3 + 1) o r rO hs hn (by omega) (by omega) hl2 q h
        rcases ifc h with ⟨a, h⟩ | ⟨a, h⟩
        · exact k0 (SL_a hS (by rw [a]; rfl) rfl rfl) h
        · have a := c_ne a
          obtain ⟨-, h⟩ := ifn h
          rcases ifc h with ⟨b, h⟩ | ⟨b, h⟩
          · exact k0 (SL_b hS g.1 (by rw [← hs]; exact c_eq b) rfl rfl) h
          · have h35 : ¬ (sg v3.toNatClampNeg).toInt = 35 := by rw [← hs]; exact c_ne b
            rcases ifc h with ⟨y, _⟩ | ⟨_, h⟩
            · exact absurd y (by decide)
            have h := (ifn (show (if v3 < 0 ∨ 1600 ≤ v3.toNatClampNeg then none else (if o.2.1 0 v3.toNatClampNeg = (32 : Int32) then gTx_splitLine fuel 0 1 0 (v3 + 1) o else fTx_splitLine_74 (gTx_splitLine fuel) 1 v2 v3 1 o)) = some r from h)).2
            rcases ifc h with ⟨e, h⟩ | ⟨e, h⟩
            · exact splitLine_go fuel 1 0 (v3 + 1) o r rO hs hn (by omega) (by omega) hl2 (SL_c hS hl g.1 (by omega) h10 a h35 (by rw [← hs]; exact c_eq e) z1 rfl e3) h
            · have h32 : ¬ (sg v3.toNatClampNeg).toInt = 32 := by rw [← hs]; exact c_ne e
              rcases ifc h with ⟨y, _⟩ | ⟨_, h⟩
              · exact absurd y (by decide)
              have l114 : ∀ o' : cf_O, fTx_splitLine_114 (gTx_splitLine fuel) 1 v3 1 o' = some r → (0 ≤ ((o'.1 5) - 1).toInt ∧ ((o'.1 5) - 1).toInt < 10) ∧ gTx_splitLine fuel 0 1 1 (v3 + 1) (xp o' 2 ((o'.1 5) - 1).toNatClampNeg (v3 + 1)) = some r := fun o' q => by
                rcases ifc q with ⟨y, _⟩ | ⟨_, q⟩
                · exact absurd y (by decide)
                obtain ⟨q1, q2⟩ := ifn (show (if ((o'.1 5) - 1) < 0 ∨ 10 ≤ ((o'.1 5) - 1).toNatClampNeg then none else gTx_splitLine fuel 0 1 1 (v3 + 1) (xp o' 2 ((o'.1 5) - 1).toNatClampNeg (v3 + 1))) = some r from q)
                exact ⟨ix_b q1, q2⟩
              rcases ifc h with ⟨f, h⟩ | ⟨f, h⟩
              · rcases ifc h with ⟨w, h⟩ | ⟨w, h⟩
                · have w : 10 ≤ (o.1 5).toInt := c_le w
                  obtain ⟨q1, q2⟩ := l114 o h
                  have e5 : ((o.1 5) - 1).toInt = (o.1 5).toInt - 1 := by rw [Int32.toInt_sub, i_bm (by rw [show (1 : Int32).toInt = 1 from rfl]; omega) (by rw [show (1 : Int32).toInt = 1 from rfl]; have := Int32.toInt_lt (o.1 5); omega)]; rfl
                  exact splitLine_go fuel 1 1 (v3 + 1) (xp o 2 ((o.1 5) - 1).toNatClampNeg (v3 + 1)) r (fr_xp rO rfl) hs hn (by omega) (by omega) hl2 (SL_g hS hl g.1 (by omega) h10 a (by rw [f]; rfl) h35 h32 z1 z1 e3 w (by show ((((o.1 5) - 1).toNatClampNeg : Nat) : Int) = (o.1 5).toInt - 1; rw [tn_n]; omega)) q2
                · have w : (o.1 5).toInt < 10 := c_nle w
                  obtain ⟨u, h⟩ := ifn h
                  rw [opk, opk, opk] at h
                  have u := ix_b u
                  have e5 : ((o.1 5) + 1).toInt = (o.1 5).toInt + 1 := p_1 u.1 (by omega)
                  obtain ⟨q1, q2⟩ := l114 _ h
                  have e6 : (((o.1 5) + 1) - 1).toInt = (o.1 5).toInt := by rw [Int32.toInt_sub, e5, i_bm (by rw [show (1 : Int32).toInt = 1 from rfl]; omega) (by rw [show (1 : Int32).toInt = 1 from rfl]; omega)]; show (o.1 5).toInt + 1 - 1 = _; omega
                  exact splitLine_go fuel 1 1 (v3 + 1) (xp (fp (xp o 1 (o.1 5).toNatClampNeg v3) 5 ((o.1 5) + 1)) 2 (((o.1 5) + 1) - 1).toNatClampNeg (v3 + 1)) r (fr_xp (fr_fp (fr_xp rO rfl) rfl) rfl) hs hn (by omega) (by omega) hl2 (SL_d hS hl g.1 (by omega) h10 a (by rw [f]; rfl) h35 h32 z1 z1 e3 e3 rfl w e5 (by rw [tn_n]; omega) (by show (((((o.1 5) + 1) - 1).toNatClampNeg : Nat) : Int) = _; rw [tn_n]; omega)) q2
              · obtain ⟨q1, q2⟩ := l114 o h
                have e5 : ((o.1 5) - 1).toInt = (o.1 5).toInt - 1 := by
                  have b5 : 0 ≤ (o.1 5).toInt ∧ (o.1 5).toInt ≤ 10 := by
                    obtain ⟨cc, hw, -⟩ := hS
                    omega
                  rw [Int32.toInt_sub, i_bm (by rw [show (1 : Int32).toInt = 1 from rfl]; omega) (by rw [show (1 : Int32).toInt = 1 from rfl]; omega)]; rfl
                exact splitLine_go fuel 1 1 (v3 + 1) (xp o 2 ((o.1 5) - 1).toNatClampNeg (v3 + 1)) r (fr_xp rO rfl) hs hn (by omega) (by omega) hl2 (SL_f hS hl g.1 (by omega) h10 a (c_ne f) h35 h32 z1 z1 e3 e3 (by show ((((o.1 5) - 1).toNatClampNeg : Nat) : Int) = (o.1 5).toInt - 1; rw [tn_n]; omega)) q2
theorem splitLine_sp {o r : cf_O} (h0 : 0 ≤ (o.1 6).toInt) (h1 : (o.1 6).toInt ≤ 1601) (h : fTx_splitLine o = some r) : Fr (fr_M [5, 6] [1, 2] []) o r ∧ Fob (chh 10 (o.2.1 0)) (o.1 3).toInt (o.1 6).toInt ((r.1 6).toInt - 1) ∧ TC (o.2.1 0) (o.1 3).toInt (o.1 6).toInt (r.1 5).toInt (r.2.1 1) (r.2.1 2) :=
  splitLine_go cfFU 1 0 (o.1 6) (fp o 5 0) r (fr_fp fr_rfl rfl) rfl rfl h0 h1 Fl_0 (SL_0 (by decide) rfl rfl rfl) h
theorem fo_b {P : Nat → Bool} {n p e : Int} (h : Fob P n p e) (h0 : 0 ≤ e) (p0 : 0 ≤ p) : p ≤ e := by
  have h : fb P n.toNat p.toNat = e.toNat := h
  have := fb_ge (P := P) (h := n.toNat) (q := p.toNat)
  omega
theorem splitLine_ok {o r : cf_O} (ho : okO I_Tx o) (h4 : (0 : Int) ≤ (o.1 4).toInt ∧ (o.1 4).toInt ≤ 1602) (h6 : (0 : Int) ≤ (o.1 6).toInt ∧ (o.1 6).toInt ≤ 1600) (h : fTx_splitLine o = some r) : okO I_Tx r ∧ 1 ≤ (r.1 6).toInt := by
  obtain ⟨r', e, Q⟩ := sTx_splitLine o ho h4 h6
  cases e.symm.trans h
  exact ⟨Q.1, Q.2.2.1.1⟩
theorem toNextLine_go {O : cf_O} {sg : Nat → Int32} {n k : Int} : ∀ (fuel : Nat) (v1 : Int32) (o : cf_O) (r : Int32 × cf_O), Fr (fr_M [4, 5, 6] [1, 2] []) O o → okO I_Tx o → o.2.1 0 = sg → (o.1 3).toInt = n → k ≤ (o.1 4).toInt → -1 ≤ (o.1 4).toInt → (o.1 4).toInt + 1 ≤ (o.1 6).toInt → 0 ≤ v1.toInt → v1.toInt ≤ (o.1 6).toInt → Lqq sg n ((o.1 4).toInt + 1) (o.1 6).toInt → Bls sg n k ((o.1 4).toInt + 1) → gTx_toNextLine fuel 0 v1 o = some r → Fr (fr_M [4, 5, 6] [1, 2] []) O r.2 ∧ NL sg n k (r.2.1 4).toInt r.1.toInt (r.2.1 5).toInt (r.2.1 6).toInt (r.2.2.1 1) (r.2.2.1 2) ∧ k < (r.2.1 4).toInt
  | 0, v1, o, r, rO, ho, hs, hn, hk, h4, h46, h0, h1, hq, hb, h => by cases h
  | fuel + 1, v1, o, r, rO, ho, hs, hn, hk, h4, h46, h0, h1, hq, hb, h => by
    have b3 : (0 : Int) ≤ (o.1 3).toInt ∧ (o.1 3).toInt ≤ 1600 := ho.1 3
    have b6 : (0 : Int) ≤ (o.1 6).toInt ∧ (o.1 6).toInt ≤ 1601 := ho.1 6
    have e4 : ((o.1 4) + 1).toInt = (o.1 4).toInt + 1 := by rw [Int32.toInt_add, i_bm (by rw [show (1 : Int32).toInt = 1 from rfl]; omega) (by rw [show (1 : Int32).toInt = 1 from rfl]; omega)]; rfl
    have en : n < (o.1 6).toInt → some ((0 : Int32), fp o 4 ((o.1 4) + 1)) = some r → Fr (fr_M [4, 5, 6] [1, 2] []) O r.2 ∧ NL sg n k (r.2.1 4).toInt r.1.toInt (r.2.1 5).toInt (r.2.1 6).toInt (r.2.2.1 1) (r.2.2.1 2) ∧ k < (r.2.1 4).toInt := fun q h => by
      rw [← Option.some.inj h]
      refine ⟨fr_fp rO rfl, ?_, by show k < ((o.1 4) + 1).toInt; omega⟩
      show NL sg n k ((o.1 4) + 1).toInt (0 : Int32).toInt _ _ _ _
      rw [e4]
      refine ⟨hb, Or.inr ⟨rfl, ?_⟩⟩
      have hq : (o.1 6).toInt = (LPq sg n.toNat ((o.1 4).toInt + 1).toNat : Int) := hq
      omega
    have h : (if (1600 : Int32) < v1 then some ((0 : Int32), fp o 4 ((o.1 4) + 1)) else (if (o.1 3) < (o.1 6) then some ((0 : Int32), fp o 4 ((o.1 4) + 1)) else Option.bind (fTx_splitLine (fp o 4 ((o.1 4) + 1))) (fun q_5 => (if (q_5.1 5) ≤ (0 : Int32) then gTx_toNextLine fuel 0 (v1 + 1) q_5 else some ((1 : Int32), q_5))))) = some r := h
    rcases ifc h with ⟨c, h⟩ | ⟨c, h⟩
    · have c : 1600 < v1.toInt := c_lt c
      exact en (by omega) h
    · have c : v1.toInt ≤ 1600 := c_nlt c
      rcases ifc h with ⟨d, h⟩ | ⟨d, h⟩
      · have d := c_lt d
        exact en (by omega) h
      · have d := c_nlt d
        obtain ⟨q, hf, h⟩ := bd h
        obtain ⟨rq, hfo, htc⟩ := splitLine_sp (o := fp o 4 ((o.1 4) + 1)) b6.1 b6.2 hf
        have kq := splitLine_ok (o := fp o 4 ((o.1 4) + 1)) (ok_fp ho ⟨show (-1 : Int) ≤ ((o.1 4) + 1).toInt by omega, show ((o.1 4) + 1).toInt ≤ (1602 : Int) by omega⟩) ⟨show (0 : Int) ≤ ((o.1 4) + 1).toInt by omega, show ((o.1 4) + 1).toInt ≤ (1602 : Int) by omega⟩ ⟨b6.1, show (o.1 6).toInt ≤ (1600 : Int) by omega⟩ hf
        have q6 : (1 : Int) ≤ (q.1 6).toInt := kq.2
        have hfo : Fob (chh 10 (o.2.1 0)) (o.1 3).toInt (o.1 6).toInt ((q.1 6).toInt - 1) := hfo
        have htc : TC (o.2.1 0) (o.1 3).toInt (o.1 6).toInt (q.1 5).toInt (q.2.1 1) (q.2.1 2) := htc
        rw [hs, hn] at hfo htc
        have q4 : (q.1 4).toInt = (o.1 4).toInt + 1 := by rw [rq.1 4 rfl]; exact e4
        have q3 : (q.1 3).toInt = n := by rw [rq.1 3 rfl]; exact hn
        have q0 : q.2.1 0 = sg := by rw [rq.2.1 0 rfl]; exact hs
        have rO2 : Fr (fr_M [4, 5, 6] [1, 2] []) O q := fr_tr (fr_fp rO rfl) rq rfl rfl rfl
        have pl := fo_b hfo (by omega) b6.1
        have hq2 : Lqq sg n ((q.1 4).toInt + 1) (q.1 6).toInt := Lq_s hq hfo (by omega) (by omega) (by omega) (by omega)
        rcases ifc h with ⟨e, h⟩ | ⟨e, h⟩
        · have e : (q.1 5).toInt ≤ 0 := c_le e
          have e1 := p_1 (v := v1) h0 c
          refine toNextLine_go fuel (v1 + 1) q r rO2 kq.1 q0 q3 (by omega) (by omega) (by omega) (by omega) (by omega) hq2 ?_ h
          exact Bls_s hb hq (by omega) (by omega) htc e (by omega)
        · have e : 0 < (q.1 5).toInt := c_nle e
          rw [← Option.some.inj h]
          refine ⟨rO2, ⟨?_, Or.inl ⟨by show ¬ (1 : Int32).toInt = 0; decide, ?_, ?_, e, hq2⟩⟩, by show k < (q.1 4).toInt; omega⟩
          · show Bls sg n k (q.1 4).toInt
            rw [q4]; exact hb
          · have hq : (o.1 6).toInt = (LPq sg n.toNat ((o.1 4).toInt + 1).toNat : Int) := hq
            show (LPq sg n.toNat (q.1 4).toInt.toNat : Int) ≤ n
            rw [q4]; omega
          · show TC sg n (LPq sg n.toNat (q.1 4).toInt.toNat) (q.1 5).toInt (q.2.1 1) (q.2.1 2)
            rw [q4]; exact TC_l htc hq
