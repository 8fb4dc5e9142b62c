theorem PrS_0 {s : Nat} {P : Nat → Nat → Prop} {x : Nat} : ¬ PrS s 0 0 P x := fun ⟨w', t', h, _⟩ => by omega
theorem PrS_n {s w t : Nat} {P : Nat → Nat → Prop} {x : Nat} (h : t = 2 ^ s ∨ ¬ usP s w s = 2 ^ s - 1) : PrS s w t P x ↔ PrS s (w + 1) 0 P x := by
  constructor
  · rintro ⟨w', t', h1, h2⟩
    exact ⟨w', t', by omega, h2⟩
  · rintro ⟨w', t', h1, h2, h3, h4, h5⟩
    refine ⟨w', t', ?_, h2, h3, h4, h5⟩
    by_cases e : w' = w
    · subst e
      rcases h with h | h
      · exact Or.inr ⟨rfl, by omega⟩
      · exact absurd h4 h
    · exact Or.inl (by omega)
theorem PrS_t {s w t : Nat} {P : Nat → Nat → Prop} {x : Nat} (hw : w < wyN s) (ht : t < 2 ^ s) (hu : usP s w s = 2 ^ s - 1) : (PrS s w t P x ∨ P (cdP s w t s) x) ↔ PrS s w (t + 1) P x := by
  constructor
  · rintro (⟨w', t', h1, h2⟩ | h)
    · exact ⟨w', t', by omega, h2⟩
    · exact ⟨w, t, Or.inr ⟨rfl, by omega⟩, hw, ht, hu, h⟩
  · rintro ⟨w', t', h1, h2, h3, h4, h5⟩
    by_cases e : w' = w ∧ t' = t
    · obtain ⟨e1, e2⟩ := e
      subst e1; subst e2
      exact Or.inr h5
    · exact Or.inl ⟨w', t', by omega, h2, h3, h4, h5⟩
theorem PrS_a {s : Nat} {P : Nat → Nat → Prop} {x : Nat} (h2 : 2 ≤ s) (h3 : s ≤ 3) : PrS s (wyN s) 0 P x ↔ ∃ p : Nat, p < 8 ^ s ∧ eoB s p = true ∧ P p x := by
  obtain ⟨_, q1, q2, _⟩ := wy_s h2 h3
  constructor
  · rintro ⟨w', t', h1, h2, h3, h4, h5⟩
    have z := (q1 w' h2 t' h3).2 h4
    exact ⟨_, z.1, z.2, h5⟩
  · rintro ⟨p, hp, he, h⟩
    obtain ⟨w, hw, t, ht, hu, e⟩ := q2 p hp he
    exact ⟨w, t, Or.inl hw, hw, ht, hu, by rw [e]; exact h⟩
theorem usP_l : ∀ {s w k : Nat}, 1 ≤ s → s ≤ 3 → usP s w k < 8 := by
  intro s w k h1 h3
  induction k with
  | zero => show 0 < 8; decide
  | succ k ih =>
    have o : ordN s w k < 3 := Nat.lt_of_lt_of_le (Nat.mod_lt _ (by omega)) h3
    exact (us_st _ ih _ o).2
theorem bit_t : ∀ t : Nat, t < 8 → ∀ k : Nat, k < 3 → (Int32.ofNat t >>> (Int32.ofNat k &&& 31) &&& 1).toInt = ((t / 2 ^ k % 2 : Nat) : Int) := by decide +kernel
def MaP (om : cf_O) (s k : Nat) (x : Nat → Nat) : Prop := ∀ j : Nat, j < k → (j < s → (om.2.1 90 (2 + j)).toInt = (x j : Int)) ∧ (s ≤ j → (om.2.1 90 (2 + j)).toInt = -1)
def TcO (OM om : cf_O) (g cl : Nat) : Prop := Fr (fr_M [] [88, 89, 90, 98] []) OM om ∧ OtQ OM om g ∧ (om.2.1 90 1).toInt = (cl : Int)
def SsP (S0 : Nat → Nat → Prop) (s w t : Nat) (P : Nat → Nat → Nat → Prop) : Nat → Nat → Prop := fun l x => S0 l x ∨ PrS s w t (P l) x
theorem tc_two {b n g c cl ci s p : Nat} {C : List Int} {W : Nat → Nat → Bool} {mt : Nat → Option Nat} {gr OM om q r : cf_O} {S : Nat → Nat → Prop} {va vb v2 : Int32} (X : TcX b n g c cl ci s C W mt gr OM) (O : TcO OM om g cl) (M : MaQ om cl s (2 * g) (ptL C p)) (hp : p < 8 ^ s) (he : eoB s p = true) (ea : va.toInt = ((2 * g : Nat) : Int)) (eb : vb.toInt = ((2 * g + 1 : Nat) : Int)) (e2 : v2.toInt = (s : Int)) (V : StQ om g c S) (h1 : fM_tryMatch va v2 om = some q) (h2 : fM_tryMatch vb v2 q = some r) : StQ r g c (fun l x => S l x ∨ CdQ (OM.2.1 84) mt C cl s (LtF W l) p x) ∧ TcO OM r g cl ∧ r.2.1 98 = om.2.1 98 := by
  obtain ⟨fo, ot, o1⟩ := O
  have f1 := wF_M_tryMatch h1
  have f2 := wF_M_tryMatch h2
  obtain ⟨v0, V0, N0⟩ := V (2 * g) (by omega)
  obtain ⟨v1, V1, N1⟩ := V (2 * g + 1) (by omega)
  obtain ⟨w0, ⟨T1, T2, T3⟩, M0⟩ := tcm_sp X fo M hp he (show 2 * g / 2 = g by omega) ea e2 V0 N0 h1
  have fq : Fr (fr_M [] [88, 89, 90, 98] []) OM q := fr_tr fo f1 rfl rfl rfl
  have V1' : RvQ q (2 * g + 1) c (2 * g) (198 * g - 99) v1 := RvQ_c V1 (T2 _ (by omega)).1 (f1.2.1 84 rfl) (T2 _ (by omega)).2
  obtain ⟨w1, ⟨U1, U2, U3⟩, M1⟩ := tcm_sp X fq (MaQ_f M T3) hp he (show (2 * g + 1) / 2 = g by omega) eb e2 V1' N1 h2
  refine ⟨fun l hl => ?_, ⟨fr_tr fq f2 rfl rfl rfl, fun l hl => ?_, by rw [U3 1 (by decide), T3 1 (by decide)]; exact o1⟩, by rw [f2.2.1 98 rfl, f1.2.1 98 rfl]⟩
  · rcases (show l = 2 * g ∨ l = 2 * g + 1 by omega) with e | e
    · subst e
      exact ⟨w0, RvQ_c T1 (U2 _ (by omega)).1 (f2.2.1 84 rfl) (U2 _ (by omega)).2, M0⟩
    · subst e
      exact ⟨w1, U1, M1⟩
  · rw [(U2 l (by omega)).1, (T2 l (by omega)).1]; exact ot l hl
theorem tcl_go {b n g c cl ci s : Nat} {C : List Int} {W : Nat → Nat → Bool} {mt : Nat → Option Nat} {gr OM : cf_O} {S0 : Nat → Nat → Prop} {v1 v2 v4 v5 : Int32} (X : TcX b n g c cl ci s C W mt gr OM) (e1 : v1.toInt = (g : Int)) (e2 : v2.toInt = (ci : Int)) (e4 : v4.toInt = (s : Int)) (e5 : v5.toInt = (wyN s : Int)) : ∀ fu : Nat,
    (∀ (w : Nat) (v6 w8 w9 w10 w11 : Int32) (om r : cf_O), v6.toInt = (w : Int) → w ≤ wyN s → TcO OM om g cl → StQ om g c (SsP S0 s w 0 (fun l => CdQ (OM.2.1 84) mt C cl s (LtF W l))) → gM_tryCell fu 0 v1 v2 v4 v5 v6 w8 w9 w10 w11 om = some r → StQ r g c (SsP S0 s (wyN s) 0 (fun l => CdQ (OM.2.1 84) mt C cl s (LtF W l))) ∧ OtQ OM r g) ∧
    (∀ (w k : Nat) (v6 v8 v9 v10 w11 : Int32) (om r : cf_O), v6.toInt = (w : Int) → w < wyN s → k ≤ s → v10.toInt = (k : Int) → v8.toInt = ((w / s ^ k : Nat) : Int) → v9.toInt = (usP s w k : Int) → (∀ j : Nat, j < k → (om.2.1 98 j).toInt = (ordN s w j : Int)) → TcO OM om g cl → StQ om g c (SsP S0 s w 0 (fun l => CdQ (OM.2.1 84) mt C cl s (LtF W l))) → gM_tryCell fu 1 v1 v2 v4 v5 v6 v8 v9 v10 w11 om = some r → StQ r g c (SsP S0 s (wyN s) 0 (fun l => CdQ (OM.2.1 84) mt C cl s (LtF W l))) ∧ OtQ OM r g) ∧
    (∀ (w t : Nat) (v6 w8 v9 v10 w11 : Int32) (om r : cf_O), v6.toInt = (w : Int) → w < wyN s → t ≤ 2 ^ s → v10.toInt = (t : Int) → v9.toInt = (usP s w s : Int) → (∀ j : Nat, j < s → (om.2.1 98 j).toInt = (ordN s w j : Int)) → TcO OM om g cl → StQ om g c (SsP S0 s w t (fun l => CdQ (OM.2.1 84) mt C cl s (LtF W l))) → gM_tryCell fu 2 v1 v2 v4 v5 v6 w8 v9 v10 w11 om = some r → StQ r g c (SsP S0 s (wyN s) 0 (fun l => CdQ (OM.2.1 84) mt C cl s (LtF W l))) ∧ OtQ OM r g) ∧
    (∀ (w t k : Nat) (v6 w8 v9 v10 v11 : Int32) (om r : cf_O), v6.toInt = (w : Int) → w < wyN s → t < 2 ^ s → v10.toInt = (t : Int) → v9.toInt = (usP s w s : Int) → usP s w s = 2 ^ s - 1 → k ≤ 3 → v11.toInt = (k : Int) → MaP om s k (ptL C (cdP s w t s)) → (∀ j : Nat, j < s → (om.2.1 98 j).toInt = (ordN s w j : Int)) → TcO OM om g cl → StQ om g c (SsP S0 s w t (fun l => CdQ (OM.2.1 84) mt C cl s (LtF W l))) → gM_tryCell fu 3 v1 v2 v4 v5 v6 w8 v9 v10 v11 om = some r → StQ r g c (SsP S0 s (wyN s) 0 (fun l => CdQ (OM.2.1 84) mt C cl s (LtF W l))) ∧ OtQ OM r g)
  | 0 => ⟨fun _ _ _ _ _ _ _ _ _ _ _ _ h => (by cases h), fun _ _ _ _ _ _ _ _ _ _ _ _ _ _ _ _ _ _ h => (by cases h), fun _ _ _ _ _ _ _ _ _ _ _ _ _ _ _ _ _ h => (by cases h), fun _ _ _ _ _ _ _ _ _ _ _ _ _ _ _ _ _ _ _ _ _ _ h => (by cases h)⟩
  | fu + 1 => by
    obtain ⟨i0, i1, i2, i3⟩ := tcl_go (S0 := S0) X e1 e2 e4 e5 fu
    have X0 := X
    obtain ⟨G, R, hV, ⟨g1, g2⟩, hC, ⟨c1, c2, c3⟩, hz, T, Mk, hcl, es, hA, dl, tb0⟩ := X
    have G0 := G.1
    obtain ⟨w27, wy1, wy2, wy3⟩ := wy_s c2 c3
    have p8 : 2 ^ s ≤ 2 ^ 3 := Nat.pow_le_pow_right (by decide) c3
    have es1 := s1_e5 s (by omega)
    rw [← on_i e4] at es1
    have n215 : ∀ (w : Nat) (v6 : Int32) (om r : cf_O), v6.toInt = (w : Int) → w < wyN s → TcO OM om g cl → StQ om g c (SsP S0 s (w + 1) 0 (fun l => CdQ (OM.2.1 84) mt C cl s (LtF W l))) → fM_tryCell_215 (gM_tryCell fu) v1 v2 v4 v5 v6 om = some r → StQ r g c (SsP S0 s (wyN s) 0 (fun l => CdQ (OM.2.1 84) mt C cl s (LtF W l))) ∧ OtQ OM r g := fun w v6 om r e6 hw O V z => by
      unfold fM_tryCell_215 at z
      rw [opk] at z
      exact i0 (w + 1) (v6 + 1) 0 0 0 0 om r (by rw [pW (by omega) (by omega)]; omega) (by omega) O V z
    refine ⟨?_, ?_, ?_, ?_⟩
    · intro w v6 w8 w9 w10 w11 om r e6 hw O V h
      have h : fM_tryCell_42 (gM_tryCell fu) v1 v2 v4 v5 v6 om = some r := h
      unfold fM_tryCell_42 at h
      rcases ifc h with ⟨a, h⟩ | ⟨a, h⟩
      · have a := c_le a
        have ew : w = wyN s := by omega
        rw [← Option.some.inj h]
        rw [ew] at V
        exact ⟨V, O.2.1⟩
      · have a := c_nle a
        exact i1 w 0 v6 v6 0 0 0 om r e6 (by omega) (Nat.zero_le _) rfl (by rw [Nat.pow_zero, Nat.div_one]; exact e6) rfl (fun j hj => absurd hj (by omega)) O V h
    · intro w k v6 v8 v9 v10 w11 om r e6 hw hk e10 e8 e9 H O V h
      have h : fM_tryCell_65 (gM_tryCell fu) v1 v2 v4 v5 v6 v8 v9 v10 om = some r := h
      unfold fM_tryCell_65 at h
      rcases ifc h with ⟨a, h⟩ | ⟨a, h⟩
      · have a := c_le a
        have ek : k = s := by omega
        rw [ek] at e9 H
        exact i2 w 0 v6 0 v9 0 0 om r e6 hw (Nat.zero_le _) rfl e9 H O V h
      · have a := c_nle a
        have h := (ifn h).2
        have wl : w / s ^ k ≤ w := Nat.div_le_self _ _
        have md := mod_i e8 e4 (by omega) (by omega)
        have md1 : (v8 - v8 / v4 * v4).toInt = (ordN s w k : Int) := md.1
        rw [opk, tW e10] at h
        have h := (ifn h).2
        rw [opk] at h
        generalize v8 - v8 / v4 * v4 = y at h md1
        have h := (ifn h).2
        rw [opk] at h
        have h := (ifn h).2
        have e98 : (xp om 98 k y).2.1 98 k = y := up_s _ _ _
        rw [opk, e98, opk, opk, opk] at h
        have ol : ordN s w k < s := Nat.mod_lt _ (by omega)
        have us := (us_st _ (usP_l (w := w) (k := k) (by omega) c3) _ (show ordN s w k < 3 by omega)).1
        rw [← on_i e9, ← on_i md1] at us
        refine i1 w (k + 1) v6 _ _ (v10 + 1) 0 (xp om 98 k y) r e6 hw (by omega) (by rw [pW (by omega) (by omega)]; omega) ?_ us (fun j hj => ?_) ⟨fr_xp O.1 rfl, fun l hl => O.2.1 l hl, O.2.2⟩ (StQ_f V rfl rfl rfl) h
        · rw [md.2, Nat.div_div_eq_div_mul, Nat.pow_succ]
        · show (upd (om.2.1 98) k y j).toInt = _
          by_cases ej : j = k
          · rw [ej, up_s]; exact md1
          · rw [up_o ej]; exact H j (by omega)
    · intro w t v6 w8 v9 v10 w11 om r e6 hw ht e10 e9 H O V h
      have h : fM_tryCell_110 (gM_tryCell fu) v1 v2 v4 v5 v6 v9 v10 om = some r := h
      unfold fM_tryCell_110 at h
      rw [opk] at h
      rcases ifc h with ⟨a, h⟩ | ⟨a, h⟩
      · have a := c_le a
        rw [es1] at a
        exact n215 w v6 om r e6 hw O (StQ_e V (fun l x _ => or_congr Iff.rfl (PrS_n (Or.inl (by omega))))) h
      · have a := c_nle a
        rw [es1] at a
        rw [opk, opk] at h
        have em : ((1 : Int32) <<< (v4 &&& 31) - 1).toInt = ((2 ^ s - 1 : Nat) : Int) := by
          rw [i_sub (by rw [es1]; show -2147483648 ≤ ((2 ^ s : Nat) : Int) - 1; omega) (by rw [es1]; show ((2 ^ s : Nat) : Int) - 1 ≤ 2147483647; omega), es1]
          show ((2 ^ s : Nat) : Int) - 1 = _
          have := Nat.two_pow_pos s
          omega
        rcases ifc h with ⟨u, h⟩ | ⟨u, h⟩
        · have u := c_eq u
          rw [e9, em] at u
          exact i3 w t 0 v6 0 v9 v10 0 om r e6 hw (by omega) e10 e9 (by omega) (by decide) rfl (fun j hj => absurd hj (by omega)) H O V h
        · have u : ¬ usP s w s = 2 ^ s - 1 := fun q => u (Int32.toInt_inj.mp (by rw [e9, em, q]))
          exact n215 w v6 om r e6 hw O (StQ_e V (fun l x _ => or_congr Iff.rfl (PrS_n (Or.inr u)))) h
    · intro w t k v6 w8 v9 v10 v11 om r e6 hw ht e10 e9 hu hk e11 P H O V h
      have h : fM_tryCell_133 (gM_tryCell fu) v1 v2 v4 v5 v6 v9 v10 v11 om = some r := h
      unfold fM_tryCell_133 at h
      obtain ⟨pl, pe⟩ := wy1 w hw t ht
      obtain ⟨pe1, pe2⟩ := pe hu
      rcases ifc h with ⟨a, h⟩ | ⟨a, h⟩
      · have a : 3 ≤ v11.toInt := c_le a
        have ek : k = 3 := by omega
        subst ek
        have M : MaQ om cl s (2 * g) (ptL C (cdP s w t s)) := by
          refine ⟨O.2.2, fun j hj => ⟨fun q => ?_, (P j hj).2⟩⟩
          have b1 := ptL_b hz c1 (wy3 _ pe1 pe2 j q)
          exact ⟨(P j hj).1 q, b1.1, b1.2.1⟩
        rw [opk] at h
        obtain ⟨q3, h3, h⟩ := bd h
        rw [opk, opk] at h
        obtain ⟨q7, h7, h⟩ := bd h
        rw [opk] at h
        have m2 := mul2 e1 (by omega)
        obtain ⟨y1, y2, y3⟩ := tc_two X0 O M pe1 pe2 m2 (by rw [pW (by omega) (by omega)]; omega) e4 V h3 h7
        refine i2 w (t + 1) v6 0 v9 (v10 + 1) 0 q7 r e6 hw (by omega) (by rw [pW (by omega) (by omega)]; omega) e9 (fun j hj => by rw [y3]; exact H j hj) y2 (StQ_e y1 (fun l x _ => ?_)) h
        unfold SsP
        rw [← PrS_t hw ht hu, or_assoc]
      · have a : v11.toInt < 3 := c_nle a
        have a2 : (2 + v11).toInt = ((2 + k : Nat) : Int) := addk (v := 2) (l := 2) rfl e11 (by decide) (by omega)
        rw [opk] at h
        have fin : ∀ y : Int32, ((k < s → y.toInt = (ptL C (cdP s w t s) k : Int)) ∧ (s ≤ k → y.toInt = -1)) → fM_tryCell_182 (gM_tryCell fu) v1 v2 v4 v5 v6 v9 v10 v11 (2 + v11) y om = some r → StQ r g c (SsP S0 s (wyN s) 0 (fun l => CdQ (OM.2.1 84) mt C cl s (LtF W l))) ∧ OtQ OM r g := fun y hy z => by
          unfold fM_tryCell_182 at z
          have z := (ifn z).2
          rw [opk, opk, tW a2] at z
          refine i3 w t (k + 1) v6 0 v9 v10 (v11 + 1) (xp om 90 (2 + k) y) r e6 hw ht e10 e9 hu (by omega) (by rw [pW (by omega) (by omega)]; omega) (fun j hj => ?_) H ⟨fr_xp O.1 rfl, fun l hl => O.2.1 l hl, ?_⟩ (StQ_f V rfl rfl rfl) z
          · show (j < s → (upd (om.2.1 90) (2 + k) y (2 + j)).toInt = _) ∧ (s ≤ j → (upd (om.2.1 90) (2 + k) y (2 + j)).toInt = -1)
            by_cases ej : j = k
            · rw [ej, up_s]; exact hy
            · rw [up_o (by omega)]; exact P j (by omega)
          · show (upd (om.2.1 90) (2 + k) y 1).toInt = _
            rw [up_o (by omega)]; exact O.2.2
        rcases ifc h with ⟨d, h⟩ | ⟨d, h⟩
        · have d := c_le d
          exact fin (-1) ⟨fun q => absurd q (by omega), fun _ => rfl⟩ h
        · have d := c_nle d
          rw [opk, tW e11] at h
          have h := (ifn h).2
          have ol : ordN s w k < s := Nat.mod_lt _ (by omega)
          have C1 : CtM ci C om := CtM_f hC (O.1.2.1 59 rfl) (O.1.2.1 58 rfl)
          have ct := CtM_g C1 (show ordN s w k < C.length by omega)
          rw [opk, opk, ix5 e2 (H k (by omega)) hC.1 (by omega)] at h
          have h := (ifn h).2
          rw [opk, opk, opk, opk, opk] at h
          refine fin _ ⟨fun q => ?_, fun q => absurd q (by omega)⟩ h
          have b1 := ptL_b (k := k) hz c1 (wy3 _ pe1 pe2 k q)
          have pk := pl k q
          have e7 : plN (cdP s w t s) k / 2 = ordN s w k := by omega
          have b3 := b1.2.2.1
          rw [e7, ct] at b3
          have b3 := Option.some.inj b3
          have bl := b1.2.1
          have e58 : (2 * om.2.1 58 (5 * ci + ordN s w k)).toInt = ((2 * (ptL C (cdP s w t s) k / 2) : Nat) : Int) := mul2 b3 (by omega)
          have bb := bit_t t (by omega) k (by omega)
          rw [← on_i e10, ← on_i e11] at bb
          rw [addk e58 bb (by omega) (by omega)]
          have := b1.2.2.2
          omega
theorem tryCell_sp {b n g c cl ci s : Nat} {C : List Int} {W : Nat → Nat → Bool} {mt : Nat → Option Nat} {gr om r : cf_O} {S0 : Nat → Nat → Prop} {v1 v2 v3 : Int32} (X : TcX b n g c cl ci s C W mt gr om) (e1 : v1.toInt = (g : Int)) (e2 : v2.toInt = (ci : Int)) (e3 : v3.toInt = (cl : Int)) (V : StQ om g c S0) (h : fM_tryCell v1 v2 v3 om = some r) : StQ r g c (fun l x => S0 l x ∨ ∃ p : Nat, p < 8 ^ s ∧ eoB s p = true ∧ CdQ (om.2.1 84) mt C cl s (LtF W l) p x) ∧ OtQ om r g := by
  have X0 := X
  obtain ⟨G, R, hV, ⟨g1, g2⟩, hC, ⟨c1, c2, c3⟩, hz, T, Mk, hcl, es, hA, dl, tb0⟩ := X
  obtain ⟨d1, d2, d3, d4⟩ := hC
  unfold fM_tryCell fM_tryCell_0 at h
  have h := (ifn h).2
  rw [opk, tW e2] at h
  have e59 : (om.2.1 59 ci).toInt = (s : Int) := by rw [d3, c1]
  have fin : ∀ (y : Int32) (om1 : cf_O), y.toInt = (wyN s : Int) → fM_tryCell_30 (gM_tryCell cfFU) v1 v2 v3 (om.2.1 59 ci) y om = some r → StQ r g c (fun l x => S0 l x ∨ ∃ p : Nat, p < 8 ^ s ∧ eoB s p = true ∧ CdQ (om.2.1 84) mt C cl s (LtF W l) p x) ∧ OtQ om r g := fun y _ ey z => by
    unfold fM_tryCell_30 at z
    have z := (ifn z).2
    rw [opk, show xp om 90 (1 : Int32).toNatClampNeg v3 = xp om 90 1 v3 from rfl] at z
    have q := (tcl_go (S0 := S0) X0 e1 e2 e59 ey cfFU).1 0 0 0 0 0 0 _ r rfl (Nat.zero_le _) ⟨fr_xp fr_rfl rfl, fun _ _ => rfl, by show (upd (om.2.1 90) 1 v3 1).toInt = _; rw [up_s]; exact e3⟩ (StQ_e (StQ_f V rfl rfl rfl) (fun l x _ => ⟨Or.inl, fun w => w.resolve_right PrS_0⟩)) z
    exact ⟨StQ_e q.1 (fun l x _ => or_congr Iff.rfl (PrS_a c2 c3)), q.2⟩
  rcases ifc h with ⟨a, h⟩ | ⟨a, h⟩
  · have a := c_eq a
    rw [e59, show (1 : Int32).toInt = 1 from rfl] at a
    omega
  · rcases ifc h with ⟨a2, h⟩ | ⟨a2, h⟩
    · have a2 := c_eq a2
      rw [e59, show (2 : Int32).toInt = 2 from rfl] at a2
      exact fin 4 om (by unfold wyN; rw [if_pos (by omega)]; rfl) h
    · have a2 : ¬ s = 2 := fun q => a2 (Int32.toInt_inj.mp (by rw [e59, q]; rfl))
      exact fin 27 om (by unfold wyN; rw [if_neg a2]; rfl) h
