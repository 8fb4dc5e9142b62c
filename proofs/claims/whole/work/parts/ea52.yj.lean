theorem mc_go {l c B T v : Nat} {OM : cf_O} {v1 : Int32} (e1 : v1.toInt = (l : Int)) (hl : l < 418) (V : RvQ OM l c B T v) : ∀ (fu k : Nat) (v2 w3 w4 w5 : Int32) (om r : cf_O), v2.toInt = (k : Int) → k ≤ 5 → Fr (fr_M [] [86, 87, 90] []) OM om → om.2.1 86 l = OM.2.1 88 l → (∀ j : Nat, j < k → om.2.1 87 (5 * l + j) = OM.2.1 89 (5 * l + j)) → Ot7 OM om l → gM_make fu 0 v1 v2 w3 w4 w5 om = some r → ∃ (f : Nat) (om1 : cf_O), Fr (fr_M [] [86, 87, 90] []) OM om1 ∧ Ot7 OM om1 l ∧ MvQ om1 l c B T v ∧ fM_make_54 (gM_make f) v1 om1 = some r
  | 0, k, v2, w3, w4, w5, om, r, e2, hk, fo, e6, H, ot, h => by cases h
  | fu + 1, k, v2, w3, w4, w5, om, r, e2, hk, fo, e6, H, ot, h => by
    have h : fM_make_14 (gM_make fu) v1 v2 om = some r := h
    unfold fM_make_14 at h
    have e84 : om.2.1 84 = OM.2.1 84 := fo.2.1 84 rfl
    rcases ifc h with ⟨a, h⟩ | ⟨a, h⟩
    · have a : 5 ≤ v2.toInt := c_le a
      have ek : k = 5 := by omega
      subst ek
      refine ⟨fu, om, fo, ot, ?_, h⟩
      rcases V with ⟨z1, z2⟩ | ⟨z1, z2, z3⟩
      · exact Or.inl ⟨by rw [e6]; exact z1, z2⟩
      · obtain ⟨q1, q2⟩ := MfQ_c z2 H
        exact Or.inr ⟨by rw [e6]; exact z1, by rw [e84]; exact q1, by rw [e84, q2]; exact z3⟩
    · have a : v2.toInt < 5 := c_nle a
      have h := (ifn h).2
      rw [opk, tW e1] at h
      rcases ifc h with ⟨d, h⟩ | ⟨d, h⟩
      · refine ⟨fu, om, fo, ot, ?_, h⟩
        rcases V with ⟨z1, z2⟩ | ⟨z1, z2, z3⟩
        · exact Or.inl ⟨by rw [e6]; exact z1, z2⟩
        · rw [e6, z1] at d; exact absurd d (by decide)
      · have m5 := mul5 e1 (show l < 100000 by omega)
        rw [opk, opk, opk, opk, tW (addk m5 e2 (by omega) (by omega))] at h
        have h := (ifn h).2
        rw [opk] at h
        have h := (ifn h).2
        rw [opk, opk] at h
        refine mc_go e1 hl V fu (k + 1) (v2 + 1) 0 0 0 (xp om 87 (5 * l + k) (om.2.1 89 (5 * l + k))) r (by rw [pW (by omega) (by omega)]; omega) (by omega) (fr_xp fo rfl) e6 (fun j hj => ?_) (fun l' hl' => ⟨(ot l' hl').1, fun j hj => ?_⟩) h
        · show upd (om.2.1 87) (5 * l + k) _ (5 * l + j) = _
          by_cases ej : j = k
          · rw [ej, up_s, fo.2.1 89 rfl]
          · rw [up_o (by omega)]; exact H j (by omega)
        · show upd (om.2.1 87) (5 * l + k) _ (5 * l' + j) = _
          rw [up_o (by omega)]; exact (ot l' hl').2 j hj
def opO (g : Bool) (v : Nat) : Option Nat := if g = true then some 0 else if v = NOM then none else some (v / 2 ^ 44)
theorem make_sp {b n l c B T B0 T0 v v' : Nat} {gr om r : cf_O} {v1 : Int32} (R : RGq b n gr om) (hF : FcQ c (om.2.1 84)) (e82 : (om.1 82).toInt = (c : Int)) (e1 : v1.toInt = (l : Int)) (hl : l < 418) (V : RvQ om l c B0 T0 v) (V' : gvB b (opN l) = true ∨ (gvB b (opN l) = false ∧ RvQ om (opN l) c B0 T0 v')) (hB0 : B0 ≤ B) (hB : opN l < B) (hB4 : B ≤ 418) (hT0 : T0 + 99 ≤ T) (hT : T ≤ 50000) (h : fM_make v1 om = some r) : MvQ r l c B T (mkW (om.2.1 84) v (opO (gvB b (opN l)) v') c l) ∧ Ot7 om r l := by
  have nar : vp_nar .boolean (om.2.1 88 l) = om.2.1 88 l := by
    rcases V with ⟨z, _⟩ | ⟨z, _⟩
    · rw [z]; exact vb_0
    · rw [z]; exact vb_1
  unfold fM_make fM_make_0 at h
  have h := (ifn h).2
  rw [opk] at h
  have h := (ifn h).2
  rw [opk, tW e1, nar] at h
  obtain ⟨f, q, fq, oq, Vq, h⟩ := mc_go e1 hl V cfFU 0 0 0 0 0 (xp om 86 l (om.2.1 88 l)) r rfl (by decide) (fr_xp fr_rfl rfl) (up_s _ _ _) (fun j hj => absurd hj (by omega)) (fun l' hl' => ⟨up_o hl', fun _ _ => rfl⟩) h
  have Rq : RGq b n gr q := RGq_f R (fq.1 39 rfl) (fq.1 40 rfl) (fq.1 43 rfl) (fq.2.1 44 rfl) (fq.2.1 45 rfl) (fq.2.1 46 rfl) (fq.2.1 47 rfl)
  have e84 : q.2.1 84 = om.2.1 84 := fq.2.1 84 rfl
  have Vw : MvQ q l c B T v := by
    rcases Vq with z | ⟨z1, z2, z3⟩
    · exact Or.inl z
    · exact Or.inr ⟨z1, MfQ_w z2 hB0 (by omega), z3⟩
  have ex : (v1 ^^^ 1).toInt = (opN l : Int) := by
    have := op_i l (by omega)
    rw [← on_i e1] at this; exact this
  have o2 := opN_2 (l := l)
  have go : ∀ (t : Nat) (y : Int32), y.toInt = (t : Int) → t ≤ T0 → fM_make_101 (gM_make f) v1 1 y q = some r → MvQ r l c B T (mkW (om.2.1 84) v (some t) c l) ∧ Ot7 om r l := fun t y ey ht z => by
    unfold fM_make_101 at z
    have mi := mi_go (v := v) Rq (by rw [e84]; exact hF) (by rw [fq.1 82 rfl]; exact e82) e1 hl ey hB hB4 (show t + 99 ≤ T by omega) hT f 0 0 0 q r rfl (Nat.zero_le _) fr_rfl (fun _ _ => ⟨rfl, fun _ _ => rfl⟩) (by rw [mkW_0 rfl]; exact Vw) z
    rw [e84] at mi
    exact ⟨mi.1, fun l' hl' => ⟨by rw [(mi.2 l' hl').1]; exact (oq l' hl').1, fun k hk => by rw [(mi.2 l' hl').2 k hk]; exact (oq l' hl').2 k hk⟩⟩
  unfold fM_make_54 at h
  rw [opk] at h
  obtain ⟨g, hg, h⟩ := bd h
  have eg := isg_sp Rq ex hg
  rcases V' with z | ⟨z, V'⟩
  · rw [z] at eg ⊢
    subst eg
    rw [if_neg (by decide)] at h
    unfold fM_make_77 fM_make_82 at h
    rw [if_neg (by decide)] at h
    exact go 0 0 rfl (Nat.zero_le _) h
  · rw [z] at eg ⊢
    subst eg
    rw [if_pos (show bI false = 0 from rfl), opk] at h
    have h := (ifn h).2
    rw [opk, tW ex, fq.2.1 88 rfl] at h
    rcases V' with ⟨z1, z2⟩ | ⟨z1, z2, z3⟩
    · rw [z1, if_pos rfl] at h
      have eo : opO false v' = none := by unfold opO; rw [if_neg (by decide), if_pos z2]
      rw [eo, mkW_n]
      unfold fM_make_82 at h
      rw [if_pos (show bI false = 0 from rfl), opk, opk] at h
      have h := (ifn h).2
      rw [opk] at h
      unfold fM_make_101 at h
      cases f with
      | zero => cases h
      | succ f =>
        have h : fM_make_106 (gM_make f) v1 0 _ 0 q = some r := h
        unfold fM_make_106 fM_make_308 at h
        rcases ifc h with ⟨_, h⟩ | ⟨_, h⟩
        · rw [← Option.some.inj h]; exact ⟨Vw, oq⟩
        · rw [if_pos rfl] at h
          rw [← Option.some.inj h]; exact ⟨Vw, oq⟩
    · rw [z1, if_neg (by decide)] at h
      have p4 := (pk_34 z2 (FcQ_a hF) (by omega)).2
      have lt : pkM (om.2.1 84) (om.2.1 89) (5 * opN l) < NOM := by
        have p3 := (pk_34 z2 (FcQ_a hF) (by omega)).2
        obtain ⟨c1, s1, h1, h2, h3, h4⟩ := z2
        unfold NOM
        omega
      have eo : opO false v' = some (om.2.1 89 (5 * opN l)).toInt.toNat := by
        unfold opO
        rw [if_neg (by decide), if_neg (by omega), z3, p4]
      rw [eo]
      unfold fM_make_77 fM_make_82 at h
      rw [if_pos (show bI false = 0 from rfl), opk, opk, tW (mul5 ex (by omega))] at h
      have h := (ifn h).2
      rw [opk, fq.2.1 89 rfl] at h
      obtain ⟨c1, s1, h1, h2, h3, h4⟩ := z2
      exact go _ _ (by omega) (by omega) h
def mtW (w : Nat → Nat) (x : Nat) : Option Nat := if w x = NOM then none else some (w x / 2 ^ 44)
def RwQ (b c m : Nat) (om : cf_O) (w : Nat → Nat) : Prop := ∀ x : Nat, 2 ≤ x → x < 2 * m → (gvB b x = true ∧ w x = 0 ∧ om.2.1 86 x = 1) ∨ (gvB b x = false ∧ MvQ om x c (2 * (x / 2) + 2) (198 * (x / 2)) (w x))
theorem RwQ_t {b c m : Nat} {om : cf_O} {w : Nat → Nat} (h : RwQ b c m om w) (hm : m ≤ 209) (hA : ArQ c (om.2.1 84)) : RmT b om (mtW w) m := fun x x2 xm => by
  rcases h x x2 xm with ⟨z1, z2, z3⟩ | ⟨z1, ⟨y1, y2⟩ | ⟨y1, y2, y3⟩⟩
  · refine Or.inr ⟨z3, 0, ?_, by omega, Or.inl ⟨z1, rfl⟩⟩
    unfold mtW
    rw [if_neg (by rw [z2]; decide), z2]
  · refine Or.inl ⟨y1, ?_⟩
    unfold mtW
    rw [if_pos y2]
  · have p4 := (pk_34 y2 hA (by omega)).2
    obtain ⟨c1, s1, h1, h2, h3, h4⟩ := y2
    refine Or.inr ⟨y1, (om.2.1 87 (5 * x)).toInt.toNat, ?_, by omega, Or.inr ⟨z1, by omega⟩⟩
    unfold mtW
    rw [if_neg (by unfold NOM; omega), y3, p4]
theorem RwQ_f {b c m : Nat} {om om2 : cf_O} {w : Nat → Nat} (h : RwQ b c m om w) (e6 : ∀ x : Nat, x < 2 * m → om2.2.1 86 x = om.2.1 86 x ∧ ∀ k : Nat, k < 5 → om2.2.1 87 (5 * x + k) = om.2.1 87 (5 * x + k)) (e4 : om2.2.1 84 = om.2.1 84) : RwQ b c m om2 w := fun x x2 xm => by
  rcases h x x2 xm with ⟨z1, z2, z3⟩ | ⟨z1, z2⟩
  · exact Or.inl ⟨z1, z2, by rw [(e6 x xm).1]; exact z3⟩
  · exact Or.inr ⟨z1, MvQ_c z2 (e6 x xm).1 e4 (e6 x xm).2⟩
def CsQ (Cs : Nat → List Int → Prop) (b m : Nat) : Prop := ∀ (g : Nat) (C : List Int), b ≤ g → g < m → Cs g C → (2 ≤ C.length ∧ C.length ≤ 3) ∧ ∀ z ∈ C, 1 ≤ z ∧ z < (g : Int)
theorem CwS_c {b n g cl l x : Nat} {gr : cf_O} {fa : Nat → Int32} {mt mt2 : Nat → Option Nat} {C : List Int} (hl : 2 ≤ C.length ∧ C.length ≤ 3) (hz : ∀ z ∈ C, 1 ≤ z ∧ z < (g : Int)) (e : ∀ x : Nat, 2 ≤ x → x < 2 * g → mt x = mt2 x) (h : CwS b n gr fa mt C cl l x) : CwS b n gr fa mt2 C cl l x := by
  obtain ⟨W, h1, h2, p, h3, h4, a, h5, h6, h7⟩ := h
  refine ⟨W, h1, h2, p, h3, h4, a, ?_, h6, h7⟩
  rw [← h5]
  refine (tmP_c _ (fun k hk => ?_)).symm
  have q := ptL_b hz rfl ((wy_s hl.1 hl.2).2.2.2 p h3 h4 k hk)
  exact e _ q.1 q.2.1
def SwQ (b n c m : Nat) (gr : cf_O) (fa : Nat → Int32) (Cs : Nat → List Int → Prop) (w : Nat → Nat) : Prop := (∀ k : Nat, 1 ≤ k → k < b → k < m → w (2 * k) = 0 ∧ w (2 * k + 1) = mkW fa NOM (some 0) c (2 * k + 1)) ∧ ∀ g : Nat, b ≤ g → g < m → ∃ v : Nat → Nat, ∀ l : Nat, l / 2 = g → MnQ (v l) (fun x => ∃ C : List Int, Cs g C ∧ ∃ cl : Nat, cl < c ∧ CwS b n gr fa (mtW w) C cl l x) ∧ w l = mkW fa (v l) (opO false (v (opN l))) c l
theorem SwQ_c {b n c m : Nat} {gr : cf_O} {fa : Nat → Int32} {Cs : Nat → List Int → Prop} {w u : Nat → Nat} (h : SwQ b n c m gr fa Cs w) (hC : CsQ Cs b m) (e : ∀ x : Nat, 2 ≤ x → x < 2 * m → u x = w x) (hb : 1 ≤ b) : SwQ b n c m gr fa Cs u := by
  refine ⟨fun k k1 k2 k3 => by rw [e _ (by omega) (by omega), e _ (by omega) (by omega)]; exact h.1 k k1 k2 k3, fun g g1 g2 => ?_⟩
  obtain ⟨v, hv⟩ := h.2 g g1 g2
  refine ⟨v, fun l hl => ?_⟩
  obtain ⟨q1, q2⟩ := hv l hl
  have em : ∀ x : Nat, 2 ≤ x → x < 2 * g → mtW w x = mtW u x := fun x x2 xg => by unfold mtW; rw [e x x2 (by omega)]
  refine ⟨MnQ_e q1 (fun x => ⟨fun ⟨C, c1, cl, c2, c3⟩ => ⟨C, c1, cl, c2, CwS_c (hC g C g1 g2 c1).1 (hC g C g1 g2 c1).2 em c3⟩, fun ⟨C, c1, cl, c2, c3⟩ => ⟨C, c1, cl, c2, CwS_c (hC g C g1 g2 c1).1 (hC g C g1 g2 c1).2 (fun x x2 xg => (em x x2 xg).symm) c3⟩⟩), by rw [e _ (by omega) (by omega)]; exact q2⟩
theorem SwQ_u {b n c m : Nat} {gr : cf_O} {fa : Nat → Int32} {Cs Ds : Nat → List Int → Prop} {w u : Nat → Nat} (h : SwQ b n c m gr fa Cs w) (k : SwQ b n c m gr fa Ds u) (hC : CsQ Cs b m) (eC : ∀ (g : Nat) (C : List Int), b ≤ g → g < m → (Cs g C ↔ Ds g C)) : ∀ j x : Nat, x < 2 * j → 2 ≤ x → x < 2 * m → w x = u x
  | 0, x, hj, _, _ => absurd hj (by omega)
  | j + 1, x, hj, x2, xm => by
    by_cases old : x < 2 * j
    · exact SwQ_u h k hC eC j x old x2 xm
    · by_cases kb : x / 2 < b
      · have h1 := h.1 (x / 2) (by omega) kb (by omega)
        have k1 := k.1 (x / 2) (by omega) kb (by omega)
        rcases (show x = 2 * (x / 2) ∨ x = 2 * (x / 2) + 1 by omega) with e | e
        · rw [e, h1.1, k1.1]
        · rw [e, h1.2, k1.2]
      · obtain ⟨v, hv⟩ := h.2 (x / 2) (by omega) (by omega)
        obtain ⟨t, ht⟩ := k.2 (x / 2) (by omega) (by omega)
        have em : ∀ y : Nat, 2 ≤ y → y < 2 * (x / 2) → mtW w y = mtW u y := fun y y2 yg => by unfold mtW; rw [SwQ_u h k hC eC j y (by omega) y2 (by omega)]
        have vt : ∀ l : Nat, l / 2 = x / 2 → v l = t l := fun l hl => by
          refine MnQ_u (hv l hl).1 (MnQ_e (ht l hl).1 (fun y => ⟨fun ⟨C, c1, cl, c2, c3⟩ => ?_, fun ⟨C, c1, cl, c2, c3⟩ => ?_⟩))
          · have cs := (eC _ C (by omega) (by omega)).mpr c1
            have q := hC _ C (by omega) (by omega) cs
            exact ⟨C, cs, cl, c2, CwS_c q.1 q.2 (fun y y2 yg => (em y y2 yg).symm) c3⟩
          · have q := hC _ C (by omega) (by omega) c1
            exact ⟨C, (eC _ C (by omega) (by omega)).mp c1, cl, c2, CwS_c q.1 q.2 em c3⟩
        rw [(hv x rfl).2, (ht x rfl).2, vt x rfl, vt (opN x) (opN_2 (l := x)).1]
