theorem icut_go {c k : Nat} {C : List Int} {om : cf_O} {v1 v2 : Int32} (e1 : v1.toInt = (c : Int)) (e2 : v2.toInt = (k : Int)) (hC : CtM c C om) : ∀ (fu t : Nat) (w : Bool) (v4 r : Int32), v4.toInt = (t : Int) → t ≤ C.length → gM_inCut fu 0 v1 v2 (bI w) v4 om = some r → r = bI (w || decide ((k : Int) ∈ C.drop t))
  | 0, t, w, v4, r, e4, tl, h => by cases h
  | fu + 1, t, w, v4, r, e4, tl, h => by
    have h : fM_inCut_5 (gM_inCut fu) v1 v2 (bI w) v4 om = some r := h
    unfold fM_inCut_5 at h
    have h := (ifn h).2
    rw [opk, tW e1] at h
    obtain ⟨c1, c2, c3, c4⟩ := hC
    have p4 := pW (v := v4) (by omega) (by omega)
    rcases ifc h with ⟨a, h⟩ | ⟨a, h⟩
    · have a := c_le a
      have h := (ifn h).2
      rw [← Option.some.inj h, show t = C.length by omega, List.drop_length, decide_eq_false (List.not_mem_nil), Bool.or_false]
    · have a := c_nle a
      have ct := CtM_g (t := t) (⟨c1, c2, c3, c4⟩ : CtM c C om) (by omega)
      have nx : ∀ (s : Int32) (y : Bool), s = bI y → fM_inCut_40 (gM_inCut fu) v1 v2 v4 s om = some r → r = bI (y || decide ((k : Int) ∈ C.drop (t + 1))) := fun s y es z => by
        rw [es] at z
        exact icut_go e1 e2 ⟨c1, c2, c3, c4⟩ fu (t + 1) y (v4 + 1) r (by omega) (by omega) z
      have dr : decide ((k : Int) ∈ C.drop t) = (decide ((om.2.1 58 (5 * c + t)) = v2) || decide ((k : Int) ∈ C.drop (t + 1))) := by
        rw [dr_cons ct]
        have e : ((k : Int) ∈ (om.2.1 58 (5 * c + t)).toInt :: C.drop (t + 1)) ↔ (om.2.1 58 (5 * c + t) = v2 ∨ (k : Int) ∈ C.drop (t + 1)) := by
          rw [List.mem_cons]
          constructor
          · rintro (q | q)
            · exact Or.inl (Int32.toInt_inj.mp (by rw [← q, e2]))
            · exact Or.inr q
          · rintro (q | q)
            · exact Or.inl (by rw [q, e2])
            · exact Or.inr q
        rw [decide_eq_decide.mpr e, Bool.decide_or]
      rcases ifc h with ⟨d, h⟩ | ⟨d, h⟩
      · have w0 := bI_0.mp d
        rw [opk, opk, ix5 e1 e4 c1 (by omega)] at h
        have h := (ifn h).2
        rw [opk] at h
        rw [dr, w0]
        rcases ifc h with ⟨y, h⟩ | ⟨y, h⟩
        · rw [decide_eq_true y]
          exact nx 1 true rfl h
        · rw [decide_eq_false y]
          exact nx 0 false rfl h
      · have w1 : w = true := by
          cases w with
          | true => rfl
          | false => exact absurd rfl d
        rw [w1, Bool.true_or]
        have := nx 1 true rfl h
        rw [Bool.true_or] at this; exact this
theorem icut_sp {c k : Nat} {C : List Int} {om : cf_O} {v1 v2 r : Int32} (e1 : v1.toInt = (c : Int)) (e2 : v2.toInt = (k : Int)) (hC : CtM c C om) (h : fM_inCut v1 v2 om = some r) : r = bI (decide ((k : Int) ∈ C)) := by
  have h : gM_inCut cfFU 0 v1 v2 (bI false) 0 om = some r := h
  have := icut_go e1 e2 hC cfFU 0 false 0 r rfl (Nat.zero_le _) h
  rw [List.drop_zero, Bool.false_or] at this; exact this
def sdB (C : List Int) (bw : Nat → Int32) : Nat → Int32 := fun k => if (k : Int) ∈ C then 2 else bw k
def BwQ (C : List Int) (bw : Nat → Int32) : Prop := ∀ k : Nat, k < 209 → bw k = 0 ∨ (bw k = 1 ∧ ¬ (k : Int) ∈ C)
def nwB (C : List Int) (bw : Nat → Int32) (m x : Nat) : Int32 := if bw x = 0 then (if bw m = 0 ∨ (x : Int) ∈ C then 0 else 1) else 1
theorem nwB_q {C : List Int} {bw : Nat → Int32} {m x : Nat} (h : BwQ C bw) (hx : x < 209) : BwQ C (upd bw x (nwB C bw m x)) := fun k hk => by
  by_cases e : k = x
  · rw [e, up_s]
    unfold nwB
    rcases h x hx with q | ⟨q1, q2⟩
    · rw [if_pos q]
      by_cases c : bw m = 0 ∨ (x : Int) ∈ C
      · rw [if_pos c]; exact Or.inl rfl
      · rw [if_neg c]; exact Or.inr ⟨rfl, fun z => c (Or.inr z)⟩
    · rw [if_neg (by rw [q1]; decide)]; exact Or.inr ⟨rfl, q2⟩
  · rw [up_o e]; exact h k hk
theorem nwB_s {C : List Int} {bw : Nat → Int32} {m x : Nat} (h : BwQ C bw) (hx : x < 209) (m1 : ¬ bw m = 0) : sdB C (upd bw x (nwB C bw m x)) = rcs (sdB C bw) x := by
  funext k
  by_cases e : k = x
  · subst e
    show (if (k : Int) ∈ C then 2 else upd bw k (nwB C bw m k) k) = _
    rw [up_s]
    by_cases c : (k : Int) ∈ C
    · have z : sdB C bw k = 2 := if_pos c
      rw [if_pos c, rcs_n (by rw [z]; decide), z]
    · have z : sdB C bw k = bw k := if_neg c
      rw [if_neg c]
      unfold nwB
      rcases h k hx with q | ⟨q, _⟩
      · rw [if_pos q, if_neg (fun y => y.elim m1 c)]
        exact (rcs_z (by rw [z]; exact q)).symm
      · rw [if_neg (by rw [q]; decide), rcs_n (by rw [z, q]; decide), z, q]
  · rw [rcs_o e]
    show (if (k : Int) ∈ C then 2 else upd bw x (nwB C bw m x) k) = (if (k : Int) ∈ C then 2 else bw k)
    rw [up_o e]
theorem nwB_0 {C : List Int} {bw : Nat → Int32} {m x : Nat} (h : BwQ C bw) (hx : x < 209) (m0 : bw m = 0) : upd bw x (nwB C bw m x) = bw := by
  funext k
  by_cases e : k = x
  · rw [e, up_s]
    unfold nwB
    rcases h x hx with q | ⟨q, _⟩
    · rw [if_pos q, if_pos (Or.inl m0), q]
    · rw [if_neg (by rw [q]; decide), q]
  · rw [up_o e]
theorem fd_40 {rc : Nat → Int32 → Int32 → Int32 → Int32 → Int32 → Int32 → cf_O → Option (Int32 × cf_O)} {b n g c m : Nat} {C : List Int} {gr om : cf_O} {v1 v2 v3 : Int32} {r : Int32 × cf_O} (G : GW b n gr) (R : RGq b n gr om) (hC : CtM c C om) (B : BwQ C (om.2.1 68)) (e2 : v2.toInt = (c : Int)) (e3 : v3.toInt = (m : Int)) (hm : m < b + n) (clo : ¬ om.2.1 68 m = 0 → ∀ k : Nat, chd gr m k → k < b → (k : Int) ∈ C) (h : fM_freed_40 rc v1 v2 v3 om = some r) : (m < b ∧ ∃ q : Int32, q.toInt = (b : Int) ∧ rc 2 v1 0 1 q 0 0 om = some r) ∨ (b ≤ m ∧ ∃ om' : cf_O, Fr (fr_M [] [68] []) om om' ∧ om'.2.1 68 = upd (upd (om.2.1 68) ((gr.2.1 4 m).toInt.toNat / 2) (nwB C (om.2.1 68) m ((gr.2.1 4 m).toInt.toNat / 2))) ((gr.2.1 5 m).toInt.toNat / 2) (nwB C (upd (om.2.1 68) ((gr.2.1 4 m).toInt.toNat / 2) (nwB C (om.2.1 68) m ((gr.2.1 4 m).toInt.toNat / 2))) m ((gr.2.1 5 m).toInt.toNat / 2)) ∧ rc 1 v1 v2 (v3 + (-1)) 0 0 0 om' = some r) := by
  have G0 := G.1
  unfold fM_freed_40 at h
  obtain ⟨q, hq, h⟩ := bd h
  have eb := base_sp R hq
  rcases ifc h with ⟨a, h⟩ | ⟨a, h⟩
  · have a := Int32.lt_iff_toInt_lt.mp a
    obtain ⟨q2, hq2, h⟩ := bd h
    exact Or.inl ⟨by omega, q2, base_sp R hq2, h⟩
  · have a : ¬ v3.toInt < q.toInt := fun z => a (Int32.lt_iff_toInt_lt.mpr z)
    refine Or.inr ⟨by omega, ?_⟩
    have ch := Gch G (show b ≤ m by omega) hm
    obtain ⟨g', hg'⟩ : ∃ g' : Nat, m = b + g' := ⟨m - b, by omega⟩
    have gl := R.2.1 g' (by omega)
    rw [← hg'] at gl
    obtain ⟨q2, hq2, h⟩ := bd h
    have eb2 := base_sp R hq2
    have ev2 : (v3 - q2).toInt = (g' : Int) := by rw [i_sub' (by omega) (by omega) (by omega) (by omega)]; omega
    rw [opk, tW ev2] at h
    have h := (ifn h).2
    rw [opk, opk, gl.1] at h
    obtain ⟨q3, hq3, h⟩ := bd h
    have eb3 := base_sp R hq3
    have ev3 : (v3 - q3).toInt = (g' : Int) := by rw [i_sub' (by omega) (by omega) (by omega) (by omega)]; omega
    rw [opk, tW ev3] at h
    have h := (ifn h).2
    rw [opk, opk, gl.2] at h
    have ix := hf_i (x := gr.2.1 4 m) (by omega)
    have iy := hf_i (x := gr.2.1 5 m) (by omega)
    have vx : (gr.2.1 4 m / 2).toInt = (((gr.2.1 4 m).toInt.toNat / 2 : Nat) : Int) := by
      have := i_dv (x := gr.2.1 4 m) (y := 2) (by omega) (by decide)
      rw [show (2 : Int32).toInt = 2 from rfl] at this; omega
    have vy : (gr.2.1 5 m / 2).toInt = (((gr.2.1 5 m).toInt.toNat / 2 : Nat) : Int) := by
      have := i_dv (x := gr.2.1 5 m) (y := 2) (by omega) (by decide)
      rw [show (2 : Int32).toInt = 2 from rfl] at this; omega
    have cx : chd gr m ((gr.2.1 4 m).toInt.toNat / 2) := Or.inl rfl
    have cy : chd gr m ((gr.2.1 5 m).toInt.toNat / 2) := Or.inr rfl
    generalize (gr.2.1 4 m).toInt.toNat / 2 = x at ch ix vx cx ⊢
    generalize (gr.2.1 5 m).toInt.toNat / 2 = y at ch iy vy cy ⊢
    generalize gr.2.1 4 m / 2 = X at h ix vx
    generalize gr.2.1 5 m / 2 = Y at h iy vy
    have h := (ifn h).2
    rw [opk, ix] at h
    -- the second node
    have snd : ∀ s1 : Int32, s1 = nwB C (om.2.1 68) m x → vp_nar .boolean s1 = s1 → fM_freed_127 rc v1 v2 v3 Y X s1 om = some r → ∃ om' : cf_O, Fr (fr_M [] [68] []) om om' ∧ om'.2.1 68 = upd (upd (om.2.1 68) x (nwB C (om.2.1 68) m x)) y (nwB C (upd (om.2.1 68) x (nwB C (om.2.1 68) m x)) m y) ∧ rc 1 v1 v2 (v3 + (-1)) 0 0 0 om' = some r := fun s1 es vs z => by
      unfold fM_freed_127 at z
      have z := (ifn z).2
      rw [opk, ix, vs, es] at z
      have z := (ifn z).2
      rw [opk, iy] at z
      obtain ⟨bw, hbw⟩ : ∃ bw : Nat → Int32, bw = upd (om.2.1 68) x (nwB C (om.2.1 68) m x) := ⟨_, rfl⟩
      have e1 : (xp om 68 x (nwB C (om.2.1 68) m x)).2.1 68 = bw := hbw.symm
      have em : bw m = om.2.1 68 m := by rw [hbw]; exact up_o (by omega)
      have hC1 : CtM c C (xp om 68 x (nwB C (om.2.1 68) m x)) := CtM_f hC rfl rfl
      have R1 : RGq b n gr (xp om 68 x (nwB C (om.2.1 68) m x)) := RGq_f R rfl rfl rfl rfl rfl rfl rfl
      have f1 : Fr (fr_M [] [68] []) om (xp om 68 x (nwB C (om.2.1 68) m x)) := fr_xp fr_rfl rfl
      rw [← hbw]
      generalize xp om 68 x (nwB C (om.2.1 68) m x) = o1 at z e1 hC1 R1 f1
      rw [e1] at z
      have fin : ∀ s2 : Int32, s2 = nwB C bw m y → vp_nar .boolean s2 = s2 → fM_freed_177 rc v1 v2 v3 Y s2 o1 = some r → ∃ om' : cf_O, Fr (fr_M [] [68] []) om om' ∧ om'.2.1 68 = upd bw y (nwB C bw m y) ∧ rc 1 v1 v2 (v3 + (-1)) 0 0 0 om' = some r := fun s2 es2 vs2 w => by
        unfold fM_freed_177 at w
        have w := (ifn w).2
        rw [opk, opk, iy, vs2, es2] at w
        refine ⟨_, fr_xp f1 rfl, ?_, w⟩
        show upd (o1.2.1 68) y (nwB C bw m y) = _
        rw [e1]
      have nw2 : ∀ s : Int32, (if bw y = 0 then (if bw m = 0 ∨ (y : Int) ∈ C then 0 else 1) else 1) = s → s = nwB C bw m y := fun s q => q.symm
      rcases ifc z with ⟨c1, z⟩ | ⟨c1, z⟩
      · have z := (ifn z).2
        rw [opk, tW e3] at z
        rcases ifc z with ⟨c2, z⟩ | ⟨c2, z⟩
        · exact fin 0 (nw2 _ (by rw [if_pos c1, if_pos (Or.inl c2)])) vb_0 z
        · obtain ⟨q4, hq4, z⟩ := bd z
          have eb4 := base_sp R1 hq4
          rcases ifc z with ⟨c3, z⟩ | ⟨c3, z⟩
          · have c3 := Int32.lt_iff_toInt_lt.mp c3
            exact fin 0 (nw2 _ (by rw [if_pos c1, if_pos (Or.inr (clo (by rw [← em]; exact c2) y cy (by omega)))])) vb_0 z
          · obtain ⟨q5, hq5, z⟩ := bd z
            have ei := icut_sp e2 vy hC1 hq5
            rcases ifc z with ⟨c4, z⟩ | ⟨c4, z⟩
            · rw [ei] at c4
              have yC := of_decide_eq_false (bI_0.mp c4)
              exact fin 1 (nw2 _ (by rw [if_pos c1, if_neg (fun w => w.elim c2 yC)])) vb_1 z
            · rw [ei] at c4
              have yC : (y : Int) ∈ C := by
                by_cases w : (y : Int) ∈ C
                · exact w
                · rw [decide_eq_false w] at c4; exact absurd rfl c4
              exact fin 0 (nw2 _ (by rw [if_pos c1, if_pos (Or.inr yC)])) vb_0 z
      · exact fin 1 (nw2 _ (by rw [if_neg c1])) vb_1 z
    have nw : ∀ s : Int32, (if om.2.1 68 x = 0 then (if om.2.1 68 m = 0 ∨ (x : Int) ∈ C then 0 else 1) else 1) = s → s = nwB C (om.2.1 68) m x := fun s q => q.symm
    rcases ifc h with ⟨c1, h⟩ | ⟨c1, h⟩
    · have h := (ifn h).2
      rw [opk, tW e3] at h
      rcases ifc h with ⟨c2, h⟩ | ⟨c2, h⟩
      · exact snd 0 (nw _ (by rw [if_pos c1, if_pos (Or.inl c2)])) vb_0 h
      · obtain ⟨q4, hq4, h⟩ := bd h
        have eb4 := base_sp R hq4
        rcases ifc h with ⟨c3, h⟩ | ⟨c3, h⟩
        · have c3 := Int32.lt_iff_toInt_lt.mp c3
          exact snd 0 (nw _ (by rw [if_pos c1, if_pos (Or.inr (clo c2 x cx (by omega)))])) vb_0 h
        · obtain ⟨q5, hq5, h⟩ := bd h
          have ei := icut_sp e2 vx hC hq5
          rcases ifc h with ⟨c4, h⟩ | ⟨c4, h⟩
          · rw [ei] at c4
            have xC := of_decide_eq_false (bI_0.mp c4)
            exact snd 1 (nw _ (by rw [if_pos c1, if_neg (fun w => w.elim c2 xC)])) vb_1 h
          · rw [ei] at c4
            have xC : (x : Int) ∈ C := by
              by_cases w : (x : Int) ∈ C
              · exact w
              · rw [decide_eq_false w] at c4; exact absurd rfl c4
            exact snd 0 (nw _ (by rw [if_pos c1, if_pos (Or.inr xC)])) vb_0 h
    · exact snd 1 (nw _ (by rw [if_neg c1])) vb_1 h
