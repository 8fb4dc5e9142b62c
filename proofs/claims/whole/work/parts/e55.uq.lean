def BlC (b n : Nat) (gr re om : cf_O) : Prop := GW b n gr ∧ RGq b n gr om ∧ NdS (b + n) re om ∧ ApI b n gr re om ∧ Lk (-1) (b : Int) (n : Int) (om.1 40).toInt (om.2.1 47) (om.2.1 44) (om.2.1 45) (om.2.1 49) (om.2.1 48)
theorem BlC_f {b n : Nat} {gr re om re' om' : cf_O} (B : BlC b n gr re om) (r0 : re'.2.1 0 = re.2.1 0) (r1 : re'.2.1 1 = re.2.1 1) (r3 : re'.2.1 3 = re.2.1 3) (o39 : om'.1 39 = om.1 39) (o40 : om'.1 40 = om.1 40) (o43 : om'.1 43 = om.1 43) (a44 : om'.2.1 44 = om.2.1 44) (a45 : om'.2.1 45 = om.2.1 45) (a46 : om'.2.1 46 = om.2.1 46) (a47 : om'.2.1 47 = om.2.1 47) (a48 : om'.2.1 48 = om.2.1 48) (a49 : om'.2.1 49 = om.2.1 49) (a50 : om'.2.1 50 = om.2.1 50) : BlC b n gr re' om' := by
  unfold BlC RGq NdS ApI at B ⊢
  rw [r0, r1, r3, o39, o40, o43, a44, a45, a46, a47, a48, a49, a50]; exact B
theorem Lv_l {h r b G : Int} {ro : Nat} {pl on tw nd : Nat → Int32} (q : Lv h r b G ro pl on tw nd) {k : Nat} (hk : (k : Int) < h) : ∃ g : Nat, (g : Int) < G ∧ g ≤ ro ∧ ¬ (nd (b + (g : Int)).toNat).toInt = 0 ∧ ((on g).toInt = (pl k).toInt ∨ (tw g).toInt = (pl k).toInt) := by
  obtain ⟨V, _, v2, _, _, _, v6⟩ := q
  obtain ⟨g, hg, e⟩ := v6 k hk
  have := v2 g hg
  exact ⟨g, this.1, this.2.2, this.2.1, e⟩
theorem BlC_Gx {b n : Nat} {gr om : cf_O} (G : GW b n gr) (R : RGq b n gr om) : Gx (b : Int) (n : Int) (om.2.1 44) (om.2.1 45) := fun g hg => by
  have r := R.2.1 g (by omega)
  have q := G.2.1 g (by omega)
  rw [r.1, r.2]; omega
def LvC (M : Nat) (RE OM rc rm : cf_O) : Prop := Fr (fr_M [7] [5, 6] []) RE rc ∧ Fr (fr_M [52, 54] [53, 55] []) OM rm ∧ ∃ r : Nat, (rc.1 7).toInt = (r : Int) ∧ (rm.1 52).toInt = (r : Int) ∧ 2 ≤ r ∧ r ≤ 201 ∧ ∀ k : Nat, k < r → rm.2.1 53 k = rc.2.1 6 k ∧ 0 ≤ (rc.2.1 6 k).toInt ∧ (rc.2.1 6 k).toInt < 2 * (M : Int)
theorem xa_b {v x : Int32} {m : Nat} (h0 : 0 ≤ v.toInt) (h1 : v.toInt < 2 * (m : Int)) (hx : 0 ≤ x.toInt) : 0 ≤ (v ^^^ (x &&& 1)).toInt ∧ (v ^^^ (x &&& 1)).toInt < 2 * (m : Int) := by
  have e := i_a1 hx
  by_cases c : x.toInt % 2 = 0
  · rw [show x &&& 1 = 0 from Int32.toInt_inj.mp (by rw [e, c]; rfl), Int32.xor_zero]; exact ⟨h0, h1⟩
  · rw [show x &&& 1 = 1 from Int32.toInt_inj.mp (by rw [e, show (1 : Int32).toInt = 1 from rfl]; omega)]; exact x1_b h0 h1
theorem lv_go {b n g M : Nat} {gr RE OM : cf_O} {v2 : Int32} (B : BlC b n gr RE OM) (gn : g < n) (F : ∀ k : Nat, k < b + g → (k < b ∨ (¬ RE.2.1 0 k = 0 ∧ RE.2.1 3 k = 0)) → OM.2.1 51 k = RE.2.1 4 k ∧ 0 ≤ (RE.2.1 4 k).toInt ∧ (RE.2.1 4 k).toInt < 2 * (M : Int)) (e2 : v2.toInt = ((b + g : Nat) : Int)) : ∀ (f1 f2 : Nat) (v3 v4 : Int32) (h r : Nat) (re om rc rm : cf_O), Fr (fr_M [7] [5, 6] []) RE re → Fr (fr_M [52, 54] [53, 55] []) OM om → v3.toInt = (h : Int) → (om.1 54).toInt = (h : Int) → (re.1 7).toInt = (r : Int) → (om.1 52).toInt = (r : Int) → v4.toInt = 2 * (r : Int) + (h : Int) - 1 → Lv (h : Int) (r : Int) (b : Int) (n : Int) g (om.2.1 55) (om.2.1 44) (om.2.1 45) (om.2.1 49) → (∀ k : Nat, k < h → om.2.1 55 k = re.2.1 5 k) → (∀ k : Nat, k < r → om.2.1 53 k = re.2.1 6 k ∧ 0 ≤ (re.2.1 6 k).toInt ∧ (re.2.1 6 k).toInt < 2 * (M : Int)) → gRe_findLeaves f1 0 v2 v3 v4 re gr = some rc → gM_leaves f2 0 om = some rm → LvC M RE OM rc rm
  | 0, f2, v3, v4, h, r, re, om, rc, rm, fr, fo, e3, e54, e7, e52, e4, L, hp, hr, q1, q2 => by cases q1
  | f1 + 1, 0, v3, v4, h, r, re, om, rc, rm, fr, fo, e3, e54, e7, e52, e4, L, hp, hr, q1, q2 => by cases q2
  | f1 + 1, f2 + 1, v3, v4, h, r, re, om, rc, rm, fr, fo, e3, e54, e7, e52, e4, L, hp, hr, q1, q2 => by
    have q1 : fRe_findLeaves_19 (gRe_findLeaves f1) v2 v3 v4 re gr = some rc := q1
    have q2 : fM_leaves_34 (gM_leaves f2) om = some rm := q2
    have B' : BlC b n gr re om := BlC_f B (fr.2.1 0 rfl) (fr.2.1 1 rfl) (fr.2.1 3 rfl) (fo.1 39 rfl) (fo.1 40 rfl) (fo.1 43 rfl) (fo.2.1 44 rfl) (fo.2.1 45 rfl) (fo.2.1 46 rfl) (fo.2.1 47 rfl) (fo.2.1 48 rfl) (fo.2.1 49 rfl) (fo.2.1 50 rfl)
    obtain ⟨G, R, N, A, LK⟩ := B'
    have G0 := G.1
    have lb := Lv_b L (by omega)
    rcases fl_19 q1 with ⟨a, _⟩ | ⟨a, a2, er⟩ | ⟨a, a2, w, x, ew, ex, q1⟩
    · omega
    · rcases lv_34 q2 with ⟨_, em⟩ | ⟨d, _⟩
      · subst er; subst em
        exact ⟨fr, fo, r, e7, e52, by omega, by omega, hr⟩
      · omega
    · rcases lv_34 q2 with ⟨d, _⟩ | ⟨d, w', x', t, ew', ex', ht, q2⟩
      · omega
      have mw : w.toInt = (h : Int) - 1 := by
        have m := m_1g (v := v3) (by omega)
        rw [← ew] at m; omega
      have mw' : w'.toInt = (h : Int) - 1 := by rw [ew', i_sub' (by omega) (by omega) (by decide) (by decide), e54, show (1 : Int32).toInt = 1 from rfl]
      clear ew ew'
      have ww : w' = w := Int32.toInt_inj.mp (by omega)
      subst ww
      have iw : w'.toNatClampNeg = h - 1 := by have := tn_n w'; omega
      rw [iw] at ex ex' q1 q2
      have xx : x' = x := by rw [ex, ex']; exact hp _ (by omega)
      subst xx
      have p4 := p_1 (v := v4) (by omega) (by omega)
      -- the literal
      obtain ⟨g', g1, g2, g3, g4⟩ := Lv_l L (k := h - 1) (by omega)
      rw [← ex'] at g4
      have rg := R.2.1 g' (by omega)
      have gg := G.2.1 g' (by omega)
      have nz' : ¬ re.2.1 0 (b + g') = 0 := fun z => g3 (by
        rw [show ((b : Int) + (g' : Int)).toNat = b + g' from by omega, (N (b + g') (by omega)).1, z]; rfl)
      have oc : OcL b n (re.2.1 0) gr x' := ⟨g', by omega, nz', by
        rcases g4 with q | q
        · exact Or.inl (Int32.toInt_inj.mp (by rw [← q, rg.1]))
        · exact Or.inr (Int32.toInt_inj.mp (by rw [← q, rg.2]))⟩
      have bx := OcL_b G (Nat.le_refl n) oc
      have xg : x'.toInt / 2 < ((b + g : Nat) : Int) := by
        rcases g4 with q | q
        · rw [← q, rg.1]; omega
        · rw [← q, rg.2]; omega
      have nx : ¬ re.2.1 0 (x'.toInt.toNat / 2) = 0 := fun z => by
        refine LK.2.1 g' (b + g') (x'.toInt.toNat / 2) (by omega) g1 (by omega) ?_ ?_ (by rw [(N _ (by omega)).1, z]; rfl)
        · rw [show ((b : Int) + (g' : Int)).toNat = b + g' from by omega] at g3; exact g3
        · rcases g4 with q | q
          · exact Or.inl (by omega)
          · exact Or.inr (by omega)
      have s2 : ¬ x' >>> ((1 : Int32) &&& 31) = v2 := fun z => by
        have := i_s1 (x := x') (by omega)
        rw [z] at this; omega
      rw [sr_i (by omega)] at q1
      rw [hf_i (by omega)] at q2
      have a2' := A.2.1 x' oc
      have yt := goes_sp (om := fp om 54 w') R (by omega) ht
      have cg : GAq b (om.2.1 48) x' ↔ GAq b (re.2.1 1) x' := GAq_c (N _ (by omega)).2
      by_cases ga' : GAq b (re.2.1 1) x'
      · -- the gate goes apart
        rw [ga_1 ga'] at a2'
        rcases q1 with ⟨_, q1⟩ | ⟨_, z, _⟩
        · rcases q2 with ⟨z, _⟩ | ⟨_, q, hq, q2⟩
          · exact absurd (cg.mpr ga') (Yn_0 yt z)
          · have eq := base_sp (om := fp om 54 w') R hq
            have x2 : (x' / 2).toInt = x'.toInt / 2 := i_dv (y := 2) (by omega) (by decide)
            have xq : (x' / 2 - q).toInt = x'.toInt / 2 - (b : Int) := by rw [i_sub' (by omega) (by omega) (by omega) (by omega), x2, eq]
            have gb := ga'.2.1
            obtain ⟨m, hm⟩ : ∃ m : Nat, x'.toInt.toNat / 2 = b + m := ⟨x'.toInt.toNat / 2 - b, by omega⟩
            have iq : (x' / 2 - q).toNatClampNeg = m := by have := tn_n (x' / 2 - q); omega
            have rm' := R.2.1 m (by omega)
            rw [iq, rm'.1, rm'.2] at q2
            rw [hm] at q1
            have w1 : (w' + 1).toInt = (h : Int) := by rw [p_1 (by omega) (by omega)]; omega
            have iw1 : (w' + 1).toNatClampNeg = h := by have := tn_n (w' + 1); omega
            have w2 : (w' + 2).toInt = ((h + 1 : Nat) : Int) := by rw [Int32.toInt_add, mw', show (2 : Int32).toInt = 2 from rfl, i_bm (by omega) (by omega)]; omega
            rw [iw1] at q1 q2
            have ev := ga'.1
            have LP : Lv ((h + 1 : Nat) : Int) (r : Int) (b : Int) (n : Int) g (upd (upd (om.2.1 55) (h - 1) (gr.2.1 5 (b + m))) h (gr.2.1 4 (b + m))) (om.2.1 44) (om.2.1 45) (om.2.1 49) := by
              refine Lv_put (l := x') (m := m) L (BlC_Gx G R) LK (by omega) (by omega) (by omega) rfl (congrArg Int32.toInt ex') (by omega) ?_ (by omega) (by omega) (by rw [rm'.2]) (by rw [rm'.1])
              rw [show ((b : Int) + (m : Int)).toNat = x'.toInt.toNat / 2 from by omega, (N _ (by omega)).2, ga'.2.2]; rfl
            refine lv_go B gn F e2 f1 f2 (w' + 2) (v4 + 1) (h + 1) r (xp (xp re 5 (h - 1) (gr.2.1 5 (b + m))) 5 h (gr.2.1 4 (b + m))) (fp (xp (xp (fp om 54 w') 55 (h - 1) (gr.2.1 5 (b + m))) 55 h (gr.2.1 4 (b + m))) 54 (w' + 2)) rc rm (fr_xp (fr_xp fr rfl) rfl) (fr_fp (fr_xp (fr_xp (fr_fp fo rfl) rfl) rfl) rfl) w2 (by show (w' + 2).toInt = _; exact w2) e7 e52 (by omega) LP (fun k hk => ?_) hr q1 q2
            · show upd (upd (om.2.1 55) (h - 1) (gr.2.1 5 (b + m))) h (gr.2.1 4 (b + m)) k = upd (upd (re.2.1 5) (h - 1) (gr.2.1 5 (b + m))) h (gr.2.1 4 (b + m)) k
              by_cases e1 : k = h
              · rw [e1, up_s, up_s]
              · rw [up_o e1, up_o e1]
                by_cases e0 : k = h - 1
                · rw [e0, up_s, up_s]
                · rw [up_o e0, up_o e0]; exact hp k (by omega)
        · rw [a2'] at z; exact absurd z (by decide)
      · -- a leaf
        rw [ga_0 ga'] at a2'
        rcases q1 with ⟨z | z, _⟩ | ⟨_, _, q, hq, q1⟩
        · exact absurd z s2
        · exact absurd a2' z
        · rcases q2 with ⟨_, q2⟩ | ⟨z, _⟩
          · have eq := fresh_sp (by omega) hq
            have ff := F (x'.toInt.toNat / 2) (by omega) (by
              by_cases lb' : x'.toInt.toNat / 2 < b
              · exact Or.inl lb'
              · exact Or.inr ⟨by rw [← fr.2.1 0 rfl]; exact nx, by rw [← fr.2.1 3 rfl]; exact a2'⟩)
            have i7 : (re.1 7).toNatClampNeg = r := by have := tn_n (re.1 7); omega
            have i52 : (om.1 52).toNatClampNeg = r := by have := tn_n (om.1 52); omega
            have p7 := p_1 (v := re.1 7) (by omega) (by omega)
            have p52 := p_1 (v := om.1 52) (by omega) (by omega)
            rw [i7, eq, fr.2.1 4 rfl] at q1
            rw [i52, fo.2.1 51 rfl, ff.1] at q2
            refine lv_go B gn F e2 f1 f2 w' (v4 + 1) (h - 1) (r + 1) (fp (xp re 6 r (RE.2.1 4 (x'.toInt.toNat / 2) ^^^ (x' &&& 1))) 7 ((re.1 7) + 1)) (fp (xp (fp om 54 w') 53 r (RE.2.1 4 (x'.toInt.toNat / 2) ^^^ (x' &&& 1))) 52 ((om.1 52) + 1)) rc rm (fr_fp (fr_xp fr rfl) rfl) (fr_fp (fr_xp (fr_fp fo rfl) rfl) rfl) (by omega) (by show w'.toInt = _; omega) (by show ((re.1 7) + 1).toInt = _; omega) (by show ((om.1 52) + 1).toInt = _; omega) (by omega) (Lv_pop (h2 := ((h - 1 : Nat) : Int)) (r2 := ((r + 1 : Nat) : Int)) L (by omega) (by omega) (by omega)) (fun k hk => hp k (by omega)) (fun k hk => ?_) q1 q2
            show upd (om.2.1 53) r (RE.2.1 4 (x'.toInt.toNat / 2) ^^^ (x' &&& 1)) k = upd (re.2.1 6) r (RE.2.1 4 (x'.toInt.toNat / 2) ^^^ (x' &&& 1)) k ∧ 0 ≤ (upd (re.2.1 6) r (RE.2.1 4 (x'.toInt.toNat / 2) ^^^ (x' &&& 1)) k).toInt ∧ (upd (re.2.1 6) r (RE.2.1 4 (x'.toInt.toNat / 2) ^^^ (x' &&& 1)) k).toInt < 2 * (M : Int)
            by_cases e1 : k = r
            · rw [e1, up_s, up_s]; exact ⟨rfl, xa_b ff.2.1 ff.2.2 (by omega)⟩
            · rw [up_o e1, up_o e1]; exact hr k (by omega)
          · exact absurd (cg.mp (Yn_1 yt z)) ga'
