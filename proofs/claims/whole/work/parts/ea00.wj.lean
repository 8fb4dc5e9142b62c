def cnB (B : Nat → Bool) (gr : cf_O) (k : Nat) : Nat → Nat
  | 0 => 0
  | p + 1 => cnB B gr k p + (if B p then (if k = (gr.2.1 4 p).toInt.toNat / 2 then 1 else 0) + (if k = (gr.2.1 5 p).toInt.toNat / 2 then 1 else 0) else 0)
theorem cnB_le {B : Nat → Bool} {gr : cf_O} {k : Nat} : ∀ p : Nat, cnB B gr k p ≤ 2 * p
  | 0 => Nat.le_refl 0
  | p + 1 => by
    have := cnB_le (B := B) (gr := gr) (k := k) p
    unfold cnB
    split
    · split <;> split <;> omega
    · omega
theorem cnB_lo {B : Nat → Bool} {gr : cf_O} {k : Nat} : ∀ N : Nat, (∀ p : Nat, p < N → B p = true → ¬ k = (gr.2.1 4 p).toInt.toNat / 2 ∧ ¬ k = (gr.2.1 5 p).toInt.toNat / 2) → cnB B gr k N = 0
  | 0, _ => rfl
  | N + 1, h => by
    unfold cnB
    rw [cnB_lo N (fun p hp => h p (by omega))]
    cases e : B N with
    | false => rfl
    | true =>
      have q := h N (by omega) e
      rw [if_pos rfl, if_neg q.1, if_neg q.2]
theorem cnB_hi {B : Nat → Bool} {gr : cf_O} {k N : Nat} : ∀ d : Nat, (∀ p : Nat, N ≤ p → p < N + d → B p = false) → cnB B gr k (N + d) = cnB B gr k N
  | 0, _ => rfl
  | d + 1, h => by
    show cnB B gr k (N + d) + (if B (N + d) then _ else 0) = _
    rw [h (N + d) (by omega) (by omega), cnB_hi d (fun p h1 h2 => h p h1 (by omega))]; rfl
theorem cnB_e {B D : Nat → Bool} {gr : cf_O} {k : Nat} : ∀ N : Nat, (∀ p : Nat, p < N → B p = D p) → cnB B gr k N = cnB D gr k N
  | 0, _ => rfl
  | N + 1, h => by
    unfold cnB
    rw [cnB_e N (fun p hp => h p (by omega)), h N (by omega)]
def frB (B : Nat → Bool) (gr : cf_O) (us : Nat → Int32) (N : Nat) : Nat → Nat
  | 0 => 0
  | k + 1 => frB B gr us N k + (if B k && decide ((cnB B gr k N : Int) = (us k).toInt) then 1 else 0)
theorem frB_le {B : Nat → Bool} {gr : cf_O} {us : Nat → Int32} {N : Nat} : ∀ k : Nat, frB B gr us N k ≤ k
  | 0 => Nat.le_refl 0
  | k + 1 => by
    have := frB_le (B := B) (gr := gr) (us := us) (N := N) k
    unfold frB
    split <;> omega
theorem frB_lo {B : Nat → Bool} {gr : cf_O} {us : Nat → Int32} {N : Nat} : ∀ K : Nat, (∀ k : Nat, k < K → B k = false) → frB B gr us N K = 0
  | 0, _ => rfl
  | K + 1, h => by
    unfold frB
    rw [frB_lo K (fun k hk => h k (by omega)), h K (by omega)]; rfl
theorem frB_e {B D : Nat → Bool} {gr : cf_O} {us ut : Nat → Int32} {N M : Nat} : ∀ K : Nat, (∀ k : Nat, k < K → B k = D k ∧ cnB B gr k N = cnB D gr k M ∧ us k = ut k) → frB B gr us N K = frB D gr ut M K
  | 0, _ => rfl
  | K + 1, h => by
    unfold frB
    obtain ⟨h1, h2, h3⟩ := h K (by omega)
    rw [frB_e K (fun k hk => h k (by omega)), h1, h2, h3]
theorem fdc_go {b n g : Nat} {B : Nat → Bool} {gr om : cf_O} {v1 : Int32} (G : GW b n gr) (R : RGq b n gr om) (hg : g < b + n) (e1 : v1.toInt = (g : Int)) (hB : ∀ k : Nat, k < 209 → (om.2.1 68 k = 0 ↔ B k = false)) (lo : ∀ k : Nat, k < b → B k = false) : ∀ fu : Nat,
    (∀ (m : Nat) (v3 v4 : Int32) (r : Int32 × cf_O), v4.toInt = (m : Int) → b ≤ m → m ≤ g → v3.toInt = 1 + (frB B gr (om.2.1 48) (b + n) m : Int) → gM_freed fu 2 v1 0 v3 v4 0 0 om = some r → r.1.toInt = 1 + (frB B gr (om.2.1 48) (b + n) g : Int) ∧ r.2 = om) ∧
    (∀ (m g' : Nat) (v3 v4 v5 v6 : Int32) (r : Int32 × cf_O), v4.toInt = (m : Int) → b ≤ m → m < g → v3.toInt = 1 + (frB B gr (om.2.1 48) (b + n) m : Int) → v6.toInt = (g' : Int) → g' ≤ n → v5.toInt = (cnB B gr m (b + g') : Int) → gM_freed fu 3 v1 0 v3 v4 v5 v6 om = some r → r.1.toInt = 1 + (frB B gr (om.2.1 48) (b + n) g : Int) ∧ r.2 = om)
  | 0 => ⟨fun _ _ _ _ _ _ _ _ h => (by cases h), fun _ _ _ _ _ _ _ _ _ _ _ _ _ _ h => (by cases h)⟩
  | fu + 1 => by
    obtain ⟨i2, i3⟩ := fdc_go G R hg e1 hB lo fu
    have G0 := G.1
    have n43 := R.1.1
    refine ⟨?_, ?_⟩
    · intro m v3 v4 r e4 bm mg e3 h
      have h : fM_freed_192 (gM_freed fu) v1 v3 v4 om = some r := h
      unfold fM_freed_192 at h
      rcases ifc h with ⟨a, h⟩ | ⟨a, h⟩
      · have a := c_le a
        rw [← Option.some.inj h, show g = m by omega]
        exact ⟨e3, rfl⟩
      · have a := c_nle a
        exact i3 m 0 v3 v4 0 0 r e4 bm (by omega) e3 rfl (Nat.zero_le _) (by rw [Nat.add_zero, cnB_lo b (fun p hp q => by rw [lo p hp] at q; cases q)]; rfl) h
    · intro m g' v3 v4 v5 v6 r e4 bm mg e3 e6 gn e5 h
      have h : fM_freed_204 (gM_freed fu) v1 v3 v4 v5 v6 om = some r := h
      unfold fM_freed_204 at h
      have frl := frB_le (B := B) (gr := gr) (us := om.2.1 48) (N := b + n) m
      have cnl := cnB_le (B := B) (gr := gr) (k := m) (b + g')
      rcases ifc h with ⟨a, h⟩ | ⟨a, h⟩
      · have a := c_le a
        have eg : g' = n := by omega
        subst eg
        have h := (ifn h).2
        rw [opk, tW e4] at h
        have p4 := pW (v := v4) (by omega) (by omega)
        have fin : ∀ s : Int32, s.toInt = 1 + (frB B gr (om.2.1 48) (b + g') (m + 1) : Int) → fM_freed_328 (gM_freed fu) v1 v4 s om = some r → r.1.toInt = 1 + (frB B gr (om.2.1 48) (b + g') g : Int) ∧ r.2 = om := fun s es z => i2 (m + 1) s (v4 + 1) r (by omega) (by omega) (by omega) es z
        rcases ifc h with ⟨c, h⟩ | ⟨c, h⟩
        · have z := (hB m (by omega)).mp c
          refine fin v3 ?_ h
          unfold frB
          rw [z]; exact e3
        · have z : B m = true := by
            cases y : B m with
            | true => rfl
            | false => exact absurd ((hB m (by omega)).mpr y) c
          have h := (ifn h).2
          rw [opk] at h
          have p3 := pW (v := v3) (by omega) (by omega)
          rcases ifc h with ⟨d, h⟩ | ⟨d, h⟩
          · rw [opk] at h
            refine fin (v3 + 1) ?_ h
            unfold frB
            rw [z, decide_eq_true (by rw [← e5, d])]
            show (v3 + 1).toInt = 1 + ((frB B gr (om.2.1 48) (b + g') m + 1 : Nat) : Int)
            omega
          · refine fin v3 ?_ h
            unfold frB
            rw [z, decide_eq_false (fun y => d (Int32.toInt_inj.mp (by rw [e5]; exact y)))]
            exact e3
      · have a := c_nle a
        obtain ⟨q, hq, h⟩ := bd h
        have eb := base_sp R hq
        have eqv : (q + v6).toInt = ((b + g' : Nat) : Int) := by rw [Int32.toInt_add, eb, i_bm (by omega) (by omega)]; omega
        rw [opk] at h
        have h := (ifn h).2
        rw [opk, tW eqv] at h
        have gl := R.2.1 g' (by omega)
        have ch := Gch G (show b ≤ b + g' by omega) (by omega)
        have p6 := pW (v := v6) (by omega) (by omega)
        have d4 := i_dv (x := gr.2.1 4 (b + g')) (y := 2) (by omega) (by decide)
        have d5 := i_dv (x := gr.2.1 5 (b + g')) (y := 2) (by omega) (by decide)
        rw [show (2 : Int32).toInt = 2 from rfl] at d4 d5
        have k4 : gr.2.1 4 (b + g') / 2 = v4 ↔ m = (gr.2.1 4 (b + g')).toInt.toNat / 2 := by
          constructor
          · intro z; rw [z] at d4; omega
          · intro z; exact Int32.toInt_inj.mp (by omega)
        have k5 : gr.2.1 5 (b + g') / 2 = v4 ↔ m = (gr.2.1 5 (b + g')).toInt.toNat / 2 := by
          constructor
          · intro z; rw [z] at d5; omega
          · intro z; exact Int32.toInt_inj.mp (by omega)
        have fin : ∀ s : Int32, s.toInt = (cnB B gr m (b + (g' + 1)) : Int) → fM_freed_291 (gM_freed fu) v1 v3 v4 v6 s om = some r → r.1.toInt = 1 + (frB B gr (om.2.1 48) (b + n) g : Int) ∧ r.2 = om := fun s es z => i3 m (g' + 1) v3 v4 s (v6 + 1) r e4 bm mg e3 (by omega) (by omega) es z
        have cs : cnB B gr m (b + (g' + 1)) = cnB B gr m (b + g') + (if B (b + g') then (if m = (gr.2.1 4 (b + g')).toInt.toNat / 2 then 1 else 0) + (if m = (gr.2.1 5 (b + g')).toInt.toNat / 2 then 1 else 0) else 0) := rfl
        -- the second one
        have snd : ∀ s : Int32, s.toInt = (cnB B gr m (b + g') : Int) + (if B (b + g') then (if m = (gr.2.1 4 (b + g')).toInt.toNat / 2 then 1 else 0) else 0) → fM_freed_251 (gM_freed fu) v1 v3 v4 v6 s om = some r → r.1.toInt = 1 + (frB B gr (om.2.1 48) (b + n) g : Int) ∧ r.2 = om := fun s es z => by
          unfold fM_freed_251 at z
          obtain ⟨q2, hq2, z⟩ := bd z
          have eb2 := base_sp R hq2
          have eqv2 : (q2 + v6).toInt = ((b + g' : Nat) : Int) := by rw [Int32.toInt_add, eb2, i_bm (by omega) (by omega)]; omega
          rw [opk] at z
          have z := (ifn z).2
          rw [opk, tW eqv2] at z
          rcases ifc z with ⟨c, z⟩ | ⟨c, z⟩
          · have y := (hB _ (by omega)).mp c
            refine fin s ?_ z
            rw [cs, y]
            rw [y] at es; exact es
          · have y : B (b + g') = true := by
              cases w : B (b + g') with
              | true => rfl
              | false => exact absurd ((hB _ (by omega)).mpr w) c
            rw [y, if_pos rfl] at es
            have z := (ifn z).2
            rw [opk, opk, tW e6, gl.2] at z
            have sb : s.toInt ≤ 1000 ∧ 0 ≤ s.toInt := by
              by_cases w : m = (gr.2.1 4 (b + g')).toInt.toNat / 2
              · rw [if_pos w] at es; omega
              · rw [if_neg w] at es; omega
            have ps := pW (v := s) (by omega) (by omega)
            rcases ifc z with ⟨d, z⟩ | ⟨d, z⟩
            · rw [opk] at z
              refine fin (s + 1) ?_ z
              rw [cs, y, if_pos rfl, if_pos (k5.mp d), ps, es]
              by_cases w : m = (gr.2.1 4 (b + g')).toInt.toNat / 2
              · rw [if_pos w, if_pos w]; omega
              · rw [if_neg w, if_neg w]; omega
            · refine fin s ?_ z
              rw [cs, y, if_pos rfl, if_neg (fun w => d (k5.mpr w)), es]
              by_cases w : m = (gr.2.1 4 (b + g')).toInt.toNat / 2
              · rw [if_pos w, if_pos w]; omega
              · rw [if_neg w, if_neg w]; omega
        rcases ifc h with ⟨c, h⟩ | ⟨c, h⟩
        · have y := (hB _ (by omega)).mp c
          exact snd v5 (by rw [y]; exact e5.trans (Int.add_zero _).symm) h
        · have y : B (b + g') = true := by
            cases w : B (b + g') with
            | true => rfl
            | false => exact absurd ((hB _ (by omega)).mpr w) c
          have h := (ifn h).2
          rw [opk, opk, tW e6, gl.1] at h
          have p5 := pW (v := v5) (by omega) (by omega)
          rcases ifc h with ⟨d, h⟩ | ⟨d, h⟩
          · rw [opk] at h
            exact snd (v5 + 1) (by rw [y, if_pos rfl, if_pos (k4.mp d)]; omega) h
          · exact snd v5 (by rw [y, if_pos rfl, if_neg (fun w => d (k4.mpr w))]; omega) h
theorem fd_9 {g : Nat} {OM : cf_O} {v1 v2 : Int32} (hg : g < 209) (e1 : v1.toInt = (g : Int)) : ∀ (fu k : Nat) (v3 : Int32) (om : cf_O) (r : Int32 × cf_O), v3.toInt = (k : Int) → k ≤ 210 → Fr (fr_M [] [68] []) OM om → (∀ j : Nat, j < k → om.2.1 68 j = bI (decide (j = g))) → gM_freed fu 0 v1 v2 v3 0 0 0 om = some r → ∃ (f : Nat) (om' : cf_O), Fr (fr_M [] [68] []) OM om' ∧ (∀ j : Nat, j < 210 → om'.2.1 68 j = bI (decide (j = g))) ∧ gM_freed f 1 v1 v2 v1 0 0 0 om' = some r
  | 0, k, v3, om, r, e3, hk, fo, H, h => by cases h
  | fu + 1, k, v3, om, r, e3, hk, fo, H, h => by
    have h : fM_freed_9 (gM_freed fu) v1 v2 v3 om = some r := h
    unfold fM_freed_9 at h
    rcases ifc h with ⟨a, h⟩ | ⟨a, h⟩
    · have a : (210 : Int) ≤ v3.toInt := c_le a
      exact ⟨fu, om, fo, fun j hj => H j (by omega), h⟩
    · have a : v3.toInt < 210 := c_nle a
      have p3 := pW (v := v3) (by omega) (by omega)
      have go : ∀ s : Int32, s = bI (decide (k = g)) → vp_nar .boolean s = s → fM_freed_31 (gM_freed fu) v1 v2 v3 v3 s om = some r → ∃ (f : Nat) (om' : cf_O), Fr (fr_M [] [68] []) OM om' ∧ (∀ j : Nat, j < 210 → om'.2.1 68 j = bI (decide (j = g))) ∧ gM_freed f 1 v1 v2 v1 0 0 0 om' = some r := fun s es vs z => by
        unfold fM_freed_31 at z
        have z := (ifn z).2
        rw [opk, opk, tW e3, vs] at z
        refine fd_9 hg e1 fu (k + 1) (v3 + 1) _ r (by omega) (by omega) (fr_xp fo rfl) (fun j hj => ?_) z
        show upd (om.2.1 68) k s j = _
        by_cases e : j = k
        · rw [e, up_s]; exact es
        · rw [up_o e]; exact H j (by omega)
      rcases ifc h with ⟨c, h⟩ | ⟨c, h⟩
      · exact go 1 (by rw [decide_eq_true (by rw [c] at e3; omega)]; rfl) vb_1 h
      · exact go 0 (by rw [decide_eq_false (fun y => c (Int32.toInt_inj.mp (by rw [e3, e1, y])))]; rfl) vb_0 h
