theorem sdB_1 {C : List Int} {bw : Nat → Int32} {k : Nat} (h : BwQ C bw) (hk : k < 209) : sdB C bw k = 1 ↔ bw k = 1 := by
  unfold sdB
  by_cases c : (k : Int) ∈ C
  · rw [if_pos c]
    constructor
    · intro q; exact absurd q (by decide)
    · intro q
      rcases h k hk with y | ⟨_, y⟩
      · rw [q] at y; exact absurd y (by decide)
      · exact absurd c y
  · rw [if_neg c]
theorem fdn_go {b n g c : Nat} {C : List Int} {gr OM : cf_O} {v1 v2 : Int32} (G : GW b n gr) (R0 : RGq b n gr OM) (hC : CtM c C OM) (hg : g < b + n) (hc : CvG b gr C g) (gC : ¬ (g : Int) ∈ C) (e2 : v2.toInt = (c : Int)) : ∀ (fu m : Nat) (v3 : Int32) (om : cf_O) (r : Int32 × cf_O), v3.toInt = (m : Int) → m ≤ g → b ≤ m + 1 → Fr (fr_M [] [68] []) OM om → BwQ C (om.2.1 68) → DnQ gr C g m (sdB C (om.2.1 68)) → gM_freed fu 1 v1 v2 v3 0 0 0 om = some r → ∃ (f : Nat) (om' : cf_O) (q : Int32), Fr (fr_M [] [68] []) OM om' ∧ BwQ C (om'.2.1 68) ∧ BtS gr C g (fun k => om'.2.1 68 k = 1) ∧ q.toInt = (b : Int) ∧ gM_freed f 2 v1 0 1 q 0 0 om' = some r
  | 0, m, v3, om, r, e3, mg, bm, fo, B, D, h => by cases h
  | fu + 1, m, v3, om, r, e3, mg, bm, fo, B, D, h => by
    have G0 := G.1
    have h : fM_freed_40 (gM_freed fu) v1 v2 v3 om = some r := h
    have R : RGq b n gr om := RGq_f R0 (fo.1 39 rfl) (fo.1 40 rfl) (fo.1 43 rfl) (fo.2.1 44 rfl) (fo.2.1 45 rfl) (fo.2.1 46 rfl) (fo.2.1 47 rfl)
    have cov : ∀ p : Nat, p < 209 → om.2.1 68 p = 1 → CvG b gr C p ∧ p ≤ g ∧ ¬ (p : Int) ∈ C := fun p hp q => DnQ_c G hg hc gC D (g + 1) p (by omega) hp ((sdB_1 B hp).mpr q)
    have one : ∀ p : Nat, p < 209 → ¬ om.2.1 68 p = 0 → om.2.1 68 p = 1 := fun p hp q => ((B p hp).resolve_left q).1
    rcases fd_40 (g := g) G R (CtM_f hC (fo.2.1 59 rfl) (fo.2.1 58 rfl)) B e2 e3 (by omega) (fun nz k ck kb => by
      obtain ⟨i1, i2, i3⟩ := cov m (by omega) (one m (by omega) nz)
      have cg := Cv_g G (by omega) i1 i3
      have ch := Gch G cg.1 (by omega)
      by_cases kC : (k : Int) ∈ C
      · exact kC
      · have ck2 : CvG b gr C k ∧ k < b + n := by
          rcases ck with z | z
          · rw [z]; exact ⟨cg.2.1, by omega⟩
          · rw [z]; exact ⟨cg.2.2, by omega⟩
        have := (Cv_g G ck2.2 ck2.1 kC).1
        omega) h with ⟨a, q, eq, h⟩ | ⟨a, om', fo', ew, h⟩
    · refine ⟨fu, om, q, fo, B, fun k hk => ?_, eq, h⟩
      show om.2.1 68 k = 1 ↔ _
      constructor
      · intro z
        rcases D k hk with ⟨_, y⟩ | ⟨kC, ⟨_, y | ⟨p, p1, p2, p3, p4, p5⟩⟩ | ⟨y, _⟩⟩
        · rw [(sdB_1 B hk).mpr z] at y; exact absurd y (by decide)
        · exact Or.inl y
        · exact Or.inr ⟨kC, p, p1, p3, (sdB_1 B (by omega)).mp p4, p5⟩
        · rw [(sdB_1 B hk).mpr z] at y; exact absurd y (by decide)
      · intro z
        have kC : ¬ (k : Int) ∈ C := by
          rcases z with z | z
          · rw [z]; exact gC
          · exact z.1
        have Rk : Rch gr g m (sdB C (om.2.1 68)) k := by
          rcases z with z | ⟨_, p, p1, p2, p3, p4⟩
          · exact Or.inl z
          · obtain ⟨i1, i2, i3⟩ := cov p (by omega) p3
            have := (Cv_g G (by omega) i1 i3).1
            exact Or.inr ⟨p, p1, by omega, p2, (sdB_1 B (by omega)).mpr p3, p4⟩
        refine (sdB_1 B hk).mp ?_
        rcases D k hk with ⟨y, _⟩ | ⟨_, ⟨y, _⟩ | ⟨_, y⟩⟩
        · exact absurd y kC
        · exact y
        · exact absurd Rk y
    · obtain ⟨j, ej⟩ : ∃ j : Nat, m = j + 1 := ⟨m - 1, by omega⟩
      subst ej
      have em := m_1g (v := v3) (by omega)
      generalize v3 + (-1) = w3 at h em
      have ch := Gch G a (by omega)
      have x2 : (gr.2.1 4 (j + 1)).toInt.toNat / 2 < 209 := by omega
      have y2 : (gr.2.1 5 (j + 1)).toInt.toNat / 2 < 209 := by omega
      have B1 := nwB_q (m := j + 1) B x2
      have B2 := nwB_q (m := j + 1) B1 y2
      rw [← ew] at B2
      refine fdn_go G R0 hC hg hc gC e2 fu j w3 om' r (by omega) (by omega) (by omega) (fr_tr fo fo' rfl rfl rfl) B2 ?_ h
      by_cases nz : om.2.1 68 (j + 1) = 0
      · rw [ew, nwB_0 B x2 nz, nwB_0 B y2 nz]
        refine DnQ_n D (fun z => ?_)
        rw [(sdB_1 B (by omega)).mp z] at nz; exact absurd nz (by decide)
      · have s1 := nwB_s B x2 nz
        have nz1 : ¬ upd (om.2.1 68) ((gr.2.1 4 (j + 1)).toInt.toNat / 2) (nwB C (om.2.1 68) (j + 1) ((gr.2.1 4 (j + 1)).toInt.toNat / 2)) (j + 1) = 0 := by
          rw [up_o (by omega)]; exact nz
        have s2 := nwB_s B1 y2 nz1
        rw [ew, s2, s1]
        exact DnQ_s D ((sdB_1 B (by omega)).mpr (one _ (by omega) nz)) (by omega) rfl rfl (by omega) (by omega)
theorem freed_sp {b n g c : Nat} {C : List Int} {gr om : cf_O} {v1 : Int32} {r : Int32 × cf_O} (G : GW b n gr) (R0 : RGq b n gr om) (hC : CtM c C om) (bg : b ≤ g) (hg : g < b + n) (hc : CvG b gr C g) (gC : ¬ (g : Int) ∈ C) (e1 : v1.toInt = (g : Int)) (e3 : (om.2.1 63 g).toInt = (c : Int)) (h : fM_freed v1 om = some r) : ∃ B : Nat → Bool, BtS gr C g (fun k => B k = true) ∧ r.1.toInt = 1 + (frB B gr (om.2.1 48) (b + n) g : Int) ∧ Fr (fr_M [] [68] []) om r.2 := by
  have G0 := G.1
  unfold fM_freed fM_freed_0 at h
  have h := (ifn h).2
  rw [opk, tW e1] at h
  obtain ⟨f1, o1, F1, H1, h⟩ := fd_9 (OM := om) (show g < 209 by omega) e1 cfFU 0 0 om r rfl (by omega) fr_rfl (fun j hj => absurd hj (by omega)) h
  have BW : BwQ C (o1.2.1 68) := fun k hk => by
    rw [H1 k (by omega)]
    by_cases e : k = g
    · rw [decide_eq_true e, e]; exact Or.inr ⟨rfl, gC⟩
    · rw [decide_eq_false e]; exact Or.inl rfl
  have D : DnQ gr C g g (sdB C (o1.2.1 68)) := fun k hk => by
    unfold sdB
    by_cases kC : (k : Int) ∈ C
    · rw [if_pos kC]; exact Or.inl ⟨kC, rfl⟩
    · rw [if_neg kC, H1 k (by omega)]
      by_cases e : k = g
      · rw [decide_eq_true e]; exact Or.inr ⟨kC, Or.inl ⟨rfl, Or.inl e⟩⟩
      · rw [decide_eq_false e]
        refine Or.inr ⟨kC, Or.inr ⟨rfl, ?_⟩⟩
        rintro (y | ⟨p, p1, p2, p3, _⟩)
        · exact e y
        · omega
  obtain ⟨f2, o2, q, F2, B2, T, eq, h⟩ := fdn_go G R0 hC hg hc gC e3 f1 g v1 o1 r e1 (Nat.le_refl _) (by omega) F1 BW D h
  have R2 : RGq b n gr o2 := RGq_f R0 (F2.1 39 rfl) (F2.1 40 rfl) (F2.1 43 rfl) (F2.2.1 44 rfl) (F2.2.1 45 rfl) (F2.2.1 46 rfl) (F2.2.1 47 rfl)
  have T2 : BtS gr C g (fun k => decide (o2.2.1 68 k = 1) = true) := fun k hk => by
    have z := T k hk
    show decide (o2.2.1 68 k = 1) = true ↔ _
    rw [decide_eq_true_iff]
    refine z.trans ?_
    constructor
    · rintro (y | ⟨y, p, p1, p2, p3, p4⟩)
      · exact Or.inl y
      · exact Or.inr ⟨y, p, p1, p2, decide_eq_true p3, p4⟩
    · rintro (y | ⟨y, p, p1, p2, p3, p4⟩)
      · exact Or.inl y
      · exact Or.inr ⟨y, p, p1, p2, of_decide_eq_true p3, p4⟩
  have lo : ∀ k : Nat, k < b → decide (o2.2.1 68 k = 1) = false := fun k hk => by
    cases w : decide (o2.2.1 68 k = 1) with
    | false => rfl
    | true =>
      obtain ⟨i1, i2, i3⟩ := BtS_c G hg hc gC T2 (g + 1) k (by omega) (by omega) w
      have := (Cv_g G (by omega) i1 i3).1
      omega
  obtain ⟨k1, k2⟩ := (fdc_go (B := fun k => decide (o2.2.1 68 k = 1)) G R2 hg e1 (fun k hk => by
    show _ ↔ decide (o2.2.1 68 k = 1) = false
    rw [decide_eq_false_iff_not]
    rcases B2 k hk with y | ⟨y, _⟩
    · rw [y]; exact ⟨fun _ => by decide, fun _ => rfl⟩
    · rw [y]; exact ⟨fun z => absurd z (by decide), fun z => absurd rfl z⟩) lo f2).1 b 1 q r eq (Nat.le_refl _) bg (by rw [frB_lo b lo]; rfl) h
  refine ⟨_, T2, ?_, by rw [k2]; exact F2⟩
  rw [k1, F2.2.1 48 rfl]
theorem btw_sp {v q : Int32} {co : cf_O} (h : fCo_isBetween v co = some q) : (q = 0 ∧ ¬ co.2.1 3 v.toNatClampNeg = 1) ∨ (¬ q = 0 ∧ co.2.1 3 v.toNatClampNeg = 1) := by
  unfold fCo_isBetween fCo_isBetween_0 at h
  have h := (ifn h).2
  rw [opk] at h
  rcases ifc h with ⟨a, h⟩ | ⟨a, h⟩
  · rw [← Option.some.inj h]; exact Or.inr ⟨by decide, a⟩
  · rw [← Option.some.inj h]; exact Or.inl ⟨rfl, a⟩
def ub2 (re : cf_O) (X Y : Nat) : cf_O := xp (xp re 2 X (re.2.1 2 X + 1)) 2 Y ((xp re 2 X (re.2.1 2 X + 1)).2.1 2 Y + 1)
theorem fby_34 {rc : Nat → Int32 → Int32 → Int32 → cf_O → cf_O → cf_O → Option (Int32 × cf_O)} {v2 v4 v5 : Int32} {re gr co : cf_O} {r : Int32 × cf_O} (h : fRe_freedBy_34 rc v2 v4 v5 re gr co = some r) : (v5.toInt ≤ (co.2.1 2 0).toInt ∧ r = (v4, re)) ∨ ((co.2.1 2 0).toInt < v5.toInt ∧ ((¬ co.2.1 3 v5.toNatClampNeg = 1 ∧ rc 1 v2 v4 (v5 + (-1)) re gr co = some r) ∨ (co.2.1 3 v5.toNatClampNeg = 1 ∧ ∃ s : Int32, s = (if v5 = v2 then 0 else if (ub2 re (gr.2.1 4 v5.toNatClampNeg >>> ((1 : Int32) &&& 31)).toNatClampNeg (gr.2.1 5 v5.toNatClampNeg >>> ((1 : Int32) &&& 31)).toNatClampNeg).2.1 2 v5.toNatClampNeg = re.2.1 1 v5.toNatClampNeg then 1 else 0) ∧ rc 1 v2 (v4 + s) (v5 + (-1)) (ub2 re (gr.2.1 4 v5.toNatClampNeg >>> ((1 : Int32) &&& 31)).toNatClampNeg (gr.2.1 5 v5.toNatClampNeg >>> ((1 : Int32) &&& 31)).toNatClampNeg) gr co = some r))) := by
  unfold fRe_freedBy_34 at h
  have h := (ifn h).2
  rw [opk, show (0 : Int32).toNatClampNeg = 0 from rfl] at h
  rcases ifc h with ⟨a, h⟩ | ⟨a, h⟩
  · exact Or.inl ⟨c_le a, (Option.some.inj h).symm⟩
  · refine Or.inr ⟨c_nle a, ?_⟩
    obtain ⟨q, hq, h⟩ := bd h
    rcases ifc h with ⟨c, h⟩ | ⟨c, h⟩
    · rcases btw_sp hq with ⟨_, d⟩ | ⟨d, _⟩
      · exact Or.inl ⟨d, h⟩
      · exact absurd c d
    · rcases btw_sp hq with ⟨d, _⟩ | ⟨_, d⟩
      · exact absurd d c
      refine Or.inr ⟨d, ?_⟩
      have h := (ifn h).2
      rw [opk, opk] at h
      have h := (ifn h).2
      rw [opk, opk] at h
      have h := (ifn h).2
      rw [opk] at h
      have h := (ifn h).2
      rw [opk, opk] at h
      have h := (ifn h).2
      rw [opk, opk] at h
      have h := (ifn h).2
      rw [opk] at h
      rcases ifc h with ⟨e, h⟩ | ⟨e, h⟩
      · exact ⟨0, by rw [if_pos e], h⟩
      · rw [if_neg e]
        have h := (ifn h).2
        rw [opk] at h
        have h := (ifn h).2
        rw [opk] at h
        rcases ifc h with ⟨f, h⟩ | ⟨f, h⟩
        · exact ⟨1, (if_pos f).symm, h⟩
        · exact ⟨0, (if_neg f).symm, h⟩
theorem fby0_go {z g : Nat} {gr co RE : cf_O} {v2 : Int32} (e2 : v2.toInt = (g : Int)) (hg : g < 209) : ∀ (fu m : Nat) (v4 : Int32) (re : cf_O) (r : Int32 × cf_O), v4.toInt = (m : Int) → m ≤ g + 1 → Fr (fr_M [] [2] []) RE re → (∀ k : Nat, z ≤ k → k < m → re.2.1 2 k = 0) → gRe_freedBy fu 0 v2 v4 0 re gr co = some r → ∃ (f : Nat) (re' : cf_O), Fr (fr_M [] [2] []) RE re' ∧ (∀ k : Nat, z ≤ k → k ≤ g → re'.2.1 2 k = 0) ∧ gRe_freedBy f 1 v2 1 v2 re' gr co = some r
  | 0, m, v4, re, r, e4, mg, fo, H, h => by cases h
  | fu + 1, m, v4, re, r, e4, mg, fo, H, h => by
    have h : fRe_freedBy_8 (gRe_freedBy fu) v2 v4 re gr co = some r := h
    unfold fRe_freedBy_8 at h
    rcases ifc h with ⟨a, h⟩ | ⟨a, h⟩
    · have a := Int32.lt_iff_toInt_lt.mp a
      exact ⟨fu, re, fo, fun k k1 k2 => H k k1 (by omega), h⟩
    · have a : ¬ v2.toInt < v4.toInt := fun q => a (Int32.lt_iff_toInt_lt.mpr q)
      have h := (ifn h).2
      rw [opk, opk, tW e4] at h
      refine fby0_go e2 hg fu (m + 1) (v4 + 1) _ r (by rw [pW (by omega) (by omega)]; omega) (by omega) (fr_xp fo rfl) (fun k k1 k2 => ?_) h
      show upd (re.2.1 2) m 0 k = 0
      by_cases e : k = m
      · rw [e, up_s]
      · rw [up_o e]; exact H k k1 (by omega)
theorem cnB_f {B : Nat → Bool} {gr : cf_O} {k p : Nat} (h : B p = false) : cnB B gr k (p + 1) = cnB B gr k p := by
  show cnB B gr k p + (if B p then _ else 0) = _
  rw [h]; rfl
theorem cnB_t {B : Nat → Bool} {gr : cf_O} {k p : Nat} (h : B p = true) : cnB B gr k (p + 1) = cnB B gr k p + ((if k = (gr.2.1 4 p).toInt.toNat / 2 then 1 else 0) + (if k = (gr.2.1 5 p).toInt.toNat / 2 then 1 else 0)) := by
  show cnB B gr k p + (if B p then _ else 0) = _
  rw [h, if_pos rfl]
theorem frB_f {B : Nat → Bool} {gr : cf_O} {us : Nat → Int32} {N k : Nat} (h : B k = false) : frB B gr us N (k + 1) = frB B gr us N k := by
  show frB B gr us N k + (if B k && decide ((cnB B gr k N : Int) = (us k).toInt) then 1 else 0) = _
  rw [h]; rfl
theorem frB_t {B : Nat → Bool} {gr : cf_O} {us : Nat → Int32} {N k : Nat} (h : B k = true) : frB B gr us N (k + 1) = frB B gr us N k + (if (cnB B gr k N : Int) = (us k).toInt then 1 else 0) := by
  show frB B gr us N k + (if B k && decide ((cnB B gr k N : Int) = (us k).toInt) then 1 else 0) = _
  rw [h, Bool.true_and]
  by_cases c : (cnB B gr k N : Int) = (us k).toInt
  · rw [if_pos c, if_pos (decide_eq_true c)]
  · rw [if_neg c, if_neg (fun q => c (of_decide_eq_true q))]
theorem fby1_go {b n z g : Nat} {C : List Int} {gr co RE : cf_O} {v2 : Int32} {B : Nat → Bool} (hB : ∀ k : Nat, B k = decide (co.2.1 3 k = 1)) (G : GW b n gr) (hg : g < b + n) (hc : CvG b gr C g) (gC : ¬ (g : Int) ∈ C) (T : BtS gr C g (fun k => co.2.1 3 k = 1)) (hz : ∀ y ∈ C, (z : Int) ≤ y) (zg : z < g) (e0 : (co.2.1 2 0).toInt = (z : Int)) (e2 : v2.toInt = (g : Int)) : ∀ (fu m : Nat) (v4 v5 : Int32) (re : cf_O) (r : Int32 × cf_O), v5.toInt = (m : Int) → m ≤ g → z ≤ m → Fr (fr_M [] [2] []) RE re → (∀ k : Nat, z ≤ k → k ≤ g → (re.2.1 2 k).toInt + (cnB B gr k (m + 1) : Int) = (cnB B gr k (g + 1) : Int) ∧ 0 ≤ (re.2.1 2 k).toInt) → 1 ≤ v4.toInt → v4.toInt + (frB B gr (RE.2.1 1) (g + 1) (min (m + 1) g) : Int) = 1 + (frB B gr (RE.2.1 1) (g + 1) g : Int) → gRe_freedBy fu 1 v2 v4 v5 re gr co = some r → r.1.toInt = 1 + (frB B gr (RE.2.1 1) (g + 1) g : Int) ∧ Fr (fr_M [] [2] []) RE r.2 := by
  intro fu
  induction fu with
  | zero => intro m v4 v5 re r e5 mg zm fo H v40 H4 h; cases h
  | succ fu ih =>
    intro m v4 v5 re r e5 mg zm fo H v40 H4 h
    have G0 := G.1
    have h : fRe_freedBy_34 (gRe_freedBy fu) v2 v4 v5 re gr co = some r := h
    have cov : ∀ p : Nat, p < 209 → co.2.1 3 p = 1 → CvG b gr C p ∧ p ≤ g ∧ ¬ (p : Int) ∈ C := fun p hp q => BtS_c G hg hc gC T (g + 1) p (by omega) hp q
    have abv : ∀ p : Nat, p < 209 → co.2.1 3 p = 1 → z < p := fun p hp q => by
      obtain ⟨i1, i2, i3⟩ := cov p hp q
      exact (Cv_ge G hz _ p (by omega) i1).2 i3
    have frl := frB_le (B := B) (gr := gr) (us := RE.2.1 1) (N := g + 1) g
    rcases fby_34 h with ⟨a, er⟩ | ⟨a, h⟩
    · have em : m = z := by omega
      subst em; subst er
      rw [show min (m + 1) g = m + 1 by omega, frB_lo (m + 1) (fun k hk => by
        rw [hB k, decide_eq_false_iff_not]
        intro q
        have := abv k (by omega) q
        omega)] at H4
      exact ⟨by show v4.toInt = _; omega, fo⟩
    · obtain ⟨j, ej⟩ : ∃ j : Nat, m = j + 1 := ⟨m - 1, by omega⟩
      subst ej
      have em := m_1g (v := v5) (by omega)
      generalize v5 + (-1) = w5 at h em
      rw [tW e5] at h
      rcases h with ⟨c, h⟩ | ⟨c, s, es, h⟩
      · have bf : B (j + 1) = false := by rw [hB]; exact decide_eq_false c
        refine ih j v4 w5 re r (by omega) (by omega) (by omega) fo (fun k k1 k2 => ?_) v40 ?_ h
        · have y := H k k1 k2
          have e : cnB B gr k (j + 1 + 1) = cnB B gr k (j + 1) := by
            exact cnB_f bf
          rw [e] at y; exact y
        · by_cases jg : j + 1 = g
          · rw [← H4, show min (j + 1) g = min (j + 1 + 1) g by omega]
          · have e : frB B gr (RE.2.1 1) (g + 1) (j + 1 + 1) = frB B gr (RE.2.1 1) (g + 1) (j + 1) := by
              exact frB_f bf
            rw [show min (j + 1 + 1) g = j + 1 + 1 by omega, e] at H4
            rw [show min (j + 1) g = j + 1 by omega]; exact H4
      · obtain ⟨i1, i2, i3⟩ := cov (j + 1) (by omega) c
        have cg := Cv_g G (by omega) i1 i3
        have ch := Gch G cg.1 (by omega)
        have ix := sr_i (x := gr.2.1 4 (j + 1)) (by omega)
        have iy := sr_i (x := gr.2.1 5 (j + 1)) (by omega)
        rw [ix, iy] at h es
        have zx := (Cv_ge G hz _ _ (by omega) cg.2.1).1
        have zy := (Cv_ge G hz _ _ (by omega) cg.2.2).1
        have cs : ∀ k : Nat, cnB B gr k (j + 1 + 1) = cnB B gr k (j + 1) + ((if k = (gr.2.1 4 (j + 1)).toInt.toNat / 2 then 1 else 0) + (if k = (gr.2.1 5 (j + 1)).toInt.toNat / 2 then 1 else 0)) := fun k => by
          exact cnB_t (by rw [hB]; exact decide_eq_true c)
        generalize (gr.2.1 4 (j + 1)).toInt.toNat / 2 = x at h es zx cs ch
        generalize (gr.2.1 5 (j + 1)).toInt.toNat / 2 = y at h es zy cs ch
        have hx := H x (by omega) (by omega)
        have hy := H y (by omega) (by omega)
        have bx := cnB_le (B := B) (gr := gr) (k := x) (g + 1)
        have by' := cnB_le (B := B) (gr := gr) (k := y) (g + 1)
        have px := pW (v := re.2.1 2 x) hx.2 (by omega)
        have py := pW (v := re.2.1 2 y) hy.2 (by omega)
        have ub : ∀ k : Nat, (ub2 re x y).2.1 2 k = (if k = y then re.2.1 2 y + 1 else if k = x then re.2.1 2 x + 1 else re.2.1 2 k) := fun k => by
          show upd (upd (re.2.1 2) x (re.2.1 2 x + 1)) y (upd (re.2.1 2) x (re.2.1 2 x + 1) y + 1) k = _
          by_cases ky : k = y
          · rw [ky, up_s, if_pos rfl, up_o (by omega)]
          · rw [up_o ky, if_neg ky]
            by_cases kx : k = x
            · rw [kx, up_s, if_pos rfl]
            · rw [up_o kx, if_neg kx]
        have um : (ub2 re x y).2.1 2 (j + 1) = re.2.1 2 (j + 1) := by rw [ub, if_neg (by omega), if_neg (by omega)]
        have hm := H (j + 1) (by omega) (by omega)
        rw [cnB_lo (j + 1 + 1) (fun p hp q => by
          rw [hB] at q
          have q := of_decide_eq_true q
          obtain ⟨p1, p2, p3⟩ := cov p (by omega) q
          have pg := (Cv_g G (by omega) p1 p3).1
          have pc := Gch G pg (by omega)
          omega)] at hm
        rw [um, fo.2.1 1 rfl] at es
        refine ih j (v4 + s) w5 (ub2 re x y) r (by omega) (by omega) (by omega) (fr_xp (fr_xp fo rfl) rfl) (fun k k1 k2 => ?_) ?_ ?_ h
        · have yk := H k k1 k2
          rw [cs k] at yk
          show ((ub2 re x y).2.1 2 k).toInt + (cnB B gr k (j + 1) : Int) = (cnB B gr k (g + 1) : Int) ∧ 0 ≤ ((ub2 re x y).2.1 2 k).toInt
          rw [ub k]
          by_cases ky : k = y
          · rw [if_pos ky, if_neg (by omega)] at yk
            rw [if_pos ky, ← ky]
            rw [← ky] at py
            omega
          · rw [if_neg ky] at yk ⊢
            by_cases kx : k = x
            · rw [if_pos kx] at yk
              rw [if_pos kx, ← kx]
              rw [← kx] at px
              omega
            · rw [if_neg kx] at yk ⊢
              omega
        · have s0 : 0 ≤ s.toInt ∧ s.toInt ≤ 1 := by
            rw [es]
            by_cases q1 : v5 = v2
            · rw [if_pos q1]; decide
            · rw [if_neg q1]
              by_cases q2 : re.2.1 2 (j + 1) = RE.2.1 1 (j + 1)
              · rw [if_pos q2]; decide
              · rw [if_neg q2]; decide
          rw [Int32.toInt_add, i_bm (by omega) (by omega)]; omega
        · by_cases jg : j + 1 = g
          · have q1 : v5 = v2 := Int32.toInt_inj.mp (by omega)
            rw [if_pos q1] at es
            rw [es, Int32.add_zero, ← H4, show min (j + 1) g = min (j + 1 + 1) g by omega]
          · have q1 : ¬ v5 = v2 := fun q => by rw [q] at e5; omega
            rw [if_neg q1] at es
            have e : frB B gr (RE.2.1 1) (g + 1) (j + 1 + 1) = frB B gr (RE.2.1 1) (g + 1) (j + 1) + (if (cnB B gr (j + 1) (g + 1) : Int) = (RE.2.1 1 (j + 1)).toInt then 1 else 0) := by
              exact frB_t (by rw [hB]; exact decide_eq_true c)
            rw [show min (j + 1 + 1) g = j + 1 + 1 by omega, e] at H4
            rw [show min (j + 1) g = j + 1 by omega]
            by_cases q2 : re.2.1 2 (j + 1) = RE.2.1 1 (j + 1)
            · rw [if_pos q2] at es
              rw [if_pos (by rw [← q2]; omega)] at H4
              rw [es, pW (by omega) (by omega)]; omega
            · rw [if_neg q2] at es
              rw [if_neg (fun q => q2 (Int32.toInt_inj.mp (by omega)))] at H4
              rw [es, Int32.add_zero]; omega
theorem fby_sp {b n z g : Nat} {C : List Int} {gr co re : cf_O} {v2 : Int32} {r : Int32 × cf_O} (G : GW b n gr) (hg : g < b + n) (hc : CvG b gr C g) (gC : ¬ (g : Int) ∈ C) (T : BtS gr C g (fun k => co.2.1 3 k = 1)) (hz : ∀ y ∈ C, (z : Int) ≤ y) (zg : z < g) (e0 : (co.2.1 2 0).toInt = (z : Int)) (e2 : v2.toInt = (g : Int)) (h : fRe_freedBy v2 re gr co = some r) : r.1.toInt = 1 + (frB (fun k => decide (co.2.1 3 k = 1)) gr (re.2.1 1) (g + 1) g : Int) ∧ Fr (fr_M [] [2] []) re r.2 := by
  have G0 := G.1
  unfold fRe_freedBy fRe_freedBy_0 at h
  have h := (ifn h).2
  rw [opk, show (0 : Int32).toNatClampNeg = 0 from rfl] at h
  obtain ⟨f, re', F, Z, h⟩ := fby0_go (z := z) (RE := re) e2 (by omega) cfFU z (co.2.1 2 0) re r e0 (by omega) fr_rfl (fun k k1 k2 => by omega) h
  refine fby1_go (RE := re) (B := fun k => decide (co.2.1 3 k = 1)) (fun _ => rfl) G hg hc gC T hz zg e0 e2 f g 1 v2 re' r e2 (Nat.le_refl _) (by omega) F (fun k k1 k2 => ?_) (by decide) (by rw [show min (g + 1) g = g by omega]; rfl) h
  rw [Z k k1 k2]
  exact ⟨by rw [show (0 : Int32).toInt = 0 from rfl]; omega, by decide⟩
