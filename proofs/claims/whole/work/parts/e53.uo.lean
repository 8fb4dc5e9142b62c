def OcL (b g : Nat) (nd : Nat → Int32) (gr : cf_O) (x : Int32) : Prop := ∃ i : Nat, i < g ∧ ¬ nd (b + i) = 0 ∧ (x = gr.2.1 4 (b + i) ∨ x = gr.2.1 5 (b + i))
theorem OcL_m {b g h : Nat} {nd : Nat → Int32} {gr : cf_O} {x : Int32} (o : OcL b g nd gr x) (l : g ≤ h) : OcL b h nd gr x := by
  obtain ⟨i, hi, q⟩ := o
  exact ⟨i, by omega, q⟩
theorem OcL_b {b n g : Nat} {nd : Nat → Int32} {gr : cf_O} {x : Int32} (G : GW b n gr) (gn : g ≤ n) (o : OcL b g nd gr x) : 2 ≤ x.toInt ∧ x.toInt / 2 < ((b + g : Nat) : Int) := by
  obtain ⟨i, hi, _, e⟩ := o
  have := G.2.1 i (by omega)
  rcases e with e | e
  · rw [e]; omega
  · rw [e]; omega
theorem OcL_s {b g : Nat} {nd : Nat → Int32} {gr : cf_O} {x : Int32} (o : OcL b (g + 1) nd gr x) : OcL b g nd gr x ∨ (¬ nd (b + g) = 0 ∧ (x = gr.2.1 4 (b + g) ∨ x = gr.2.1 5 (b + g))) := by
  obtain ⟨i, hi, q⟩ := o
  by_cases e : i = g
  · subst e; exact Or.inr q
  · exact Or.inl ⟨i, by omega, q⟩
def UQ (b n : Nat) (nd us : Nat → Int32) (gr : cf_O) : Prop := ∀ x y : Int32, OcL b n nd gr x → OcL b n nd gr y → x.toInt.toNat / 2 = y.toInt.toNat / 2 → us (x.toInt.toNat / 2) = 1 → x = y
theorem uq1 {b n : Nat} {gr om : cf_O} {K : Int} (G : GW b n gr) (R : RGq b n gr om) (L : Lk (-1) (b : Int) (n : Int) K (om.2.1 47) (om.2.1 44) (om.2.1 45) (om.2.1 49) (om.2.1 48)) : UQ b n (om.2.1 49) (om.2.1 48) gr := by
  intro x y ox oy exy u1
  have G0 := G.1
  have bx := OcL_b G (Nat.le_refl n) ox
  obtain ⟨i, hi, ni, ei⟩ := ox
  obtain ⟨j, hj, nj, ej⟩ := oy
  have gi := G.2.1 i hi
  have gj := G.2.1 j hj
  have ri := R.2.1 i hi
  have rj := R.2.1 j hj
  by_cases e : i = j
  · subst e
    rcases ei with ei | ei <;> rcases ej with ej | ej
    · rw [ei, ej]
    · rw [ei, ej] at exy; omega
    · rw [ei, ej] at exy; omega
    · rw [ei, ej]
  · exfalso
    have l1 := L.1 (x.toInt.toNat / 2) (by omega)
    rw [u1, show (1 : Int32).toInt = 1 from rfl] at l1
    have nz : ∀ k : Nat, ¬ om.2.1 49 (b + k) = 0 → ¬ (om.2.1 49 ((b : Int) + (k : Int)).toNat).toInt = 0 := fun k hk z => hk (Int32.toInt_inj.mp (by rw [show b + k = ((b : Int) + (k : Int)).toNat from by omega, z]; rfl))
    have s2 := sm_2 (P := fun g => (-1 : Int) < (g : Int) ∧ ¬ (om.2.1 49 ((b : Int) + (g : Int)).toNat).toInt = 0) (w := e1 (om.2.1 44) (om.2.1 45) (x.toInt.toNat / 2)) (m := (n : Int).toNat) (x := i) (y := j) (by omega) (by omega) e ⟨by omega, nz i ni⟩ ⟨by omega, nz j nj⟩
    have ge : ∀ (k : Nat) (z : Int32), om.2.1 44 k = gr.2.1 4 (b + k) → om.2.1 45 k = gr.2.1 5 (b + k) → 0 ≤ z.toInt → (z = gr.2.1 4 (b + k) ∨ z = gr.2.1 5 (b + k)) → z.toInt.toNat / 2 = x.toInt.toNat / 2 → 1 ≤ e1 (om.2.1 44) (om.2.1 45) (x.toInt.toNat / 2) k := fun k z r1 r2 z0 hz em => by
      unfold e1
      rw [r1, r2]
      rcases hz with hz | hz
      · rw [if_pos (by rw [← hz]; omega)]; omega
      · rw [if_pos (c := (gr.2.1 5 (b + k)).toInt / 2 = ((x.toInt.toNat / 2 : Nat) : Int)) (by rw [← hz]; omega)]; omega
    have a1 := ge i x ri.1 ri.2 (by omega) ei rfl
    have a2 := ge j y rj.1 rj.2 (by rcases ej with q | q <;> (rw [q]; omega)) ej exy.symm
    omega
theorem ga_u {b : Nat} {us : Nat → Int32} {x y : Int32} (e : x.toInt.toNat / 2 = y.toInt.toNat / 2) (u : us (x.toInt.toNat / 2) = 1 → x = y) : ga b us x = ga b us y := by
  by_cases h : GAq b us x
  · rw [u h.2.2]
  · by_cases k : GAq b us y
    · rw [u (by rw [e]; exact k.2.2)]
    · rw [ga_0 h, ga_0 k]
theorem GAq_c {b : Nat} {us us2 : Nat → Int32} {x : Int32} (e : us2 (x.toInt.toNat / 2) = us (x.toInt.toNat / 2)) : GAq b us2 x ↔ GAq b us x := by
  unfold GAq; rw [e]
def ApI (b g : Nat) (gr re om : cf_O) : Prop := (∀ k : Nat, b ≤ k → k < b + g → om.2.1 50 k = re.2.1 3 k) ∧ (∀ x : Int32, OcL b g (re.2.1 0) gr x → re.2.1 3 (x.toInt.toNat / 2) = ga b (re.2.1 1) x) ∧ (∀ k : Nat, b + g ≤ k → k < 210 → om.2.1 50 k = 0) ∧ ∀ k : Nat, k < 210 → ¬ om.2.1 50 k = 0 → ∃ x : Int32, OcL b g (re.2.1 0) gr x ∧ x.toInt.toNat / 2 = k ∧ GAq b (re.2.1 1) x
theorem mkA_ga {b n g : Nat} {x y : Int32} {gr re om : cf_O} (G : GW b n gr) (gn : g ≤ n) (R : RGq b n gr om) (N : NdS (b + n) re om) (U : UQ b n (re.2.1 0) (re.2.1 1) gr) (A4 : ∀ k : Nat, k < 210 → ¬ om.2.1 50 k = 0 → ∃ x : Int32, OcL b g (re.2.1 0) gr x ∧ x.toInt.toNat / 2 = k ∧ GAq b (re.2.1 1) x) (ox : OcL b n (re.2.1 0) gr x) (h : MkA x om (x.toInt.toNat / 2) y) : y = ga b (re.2.1 1) x := by
  have bx := OcL_b G (Nat.le_refl n) ox
  have G0 := G.1
  rcases h with ⟨h, e⟩ | ⟨h, t, ht, h2⟩
  · obtain ⟨z, oz, ez, gz⟩ := A4 _ (by omega) h
    have : z = x := U z x (OcL_m oz gn) ox ez gz.2.2
    rw [this] at gz
    rw [ga_1 gz]; exact e
  · have yt := goes_sp R (by omega) ht
    have cg := GAq_c (b := b) (x := x) (us := re.2.1 1) (us2 := om.2.1 48) (N _ (by omega)).2
    rcases h2 with ⟨a, e⟩ | ⟨a, e⟩
    · rw [ga_0 (fun z => Yn_0 yt a (cg.mpr z))]; exact e
    · rw [ga_1 (cg.mp (Yn_1 yt a))]; exact e
theorem ap_s {b n g : Nat} {gr re om : cf_O} (G : GW b n gr) (gn : g < n) (U : UQ b n (re.2.1 0) (re.2.1 1) gr) (A : ApI b g gr re om) (nz : ¬ re.2.1 0 (b + g) = 0) : ApI b (g + 1) gr (xp (xp (xp re 3 (b + g) 0) 3 ((gr.2.1 4 (b + g)).toInt.toNat / 2) (ga b (re.2.1 1) (gr.2.1 4 (b + g)))) 3 ((gr.2.1 5 (b + g)).toInt.toNat / 2) (ga b (re.2.1 1) (gr.2.1 5 (b + g)))) (xp (xp om 50 ((gr.2.1 4 (b + g)).toInt.toNat / 2) (ga b (re.2.1 1) (gr.2.1 4 (b + g)))) 50 ((gr.2.1 5 (b + g)).toInt.toNat / 2) (ga b (re.2.1 1) (gr.2.1 5 (b + g)))) := by
  obtain ⟨A1, A2, A3, A4⟩ := A
  have gg := G.2.1 g gn
  have ol : OcL b n (re.2.1 0) gr (gr.2.1 4 (b + g)) := ⟨g, gn, nz, Or.inl rfl⟩
  have oh : OcL b n (re.2.1 0) gr (gr.2.1 5 (b + g)) := ⟨g, gn, nz, Or.inr rfl⟩
  have ol' : OcL b (g + 1) (re.2.1 0) gr (gr.2.1 4 (b + g)) := ⟨g, by omega, nz, Or.inl rfl⟩
  have oh' : OcL b (g + 1) (re.2.1 0) gr (gr.2.1 5 (b + g)) := ⟨g, by omega, nz, Or.inr rfl⟩
  have cut : ∀ x : Int32, OcL b (g + 1) (re.2.1 0) gr x → OcL b g (re.2.1 0) gr x ∨ x = gr.2.1 4 (b + g) ∨ x = gr.2.1 5 (b + g) := fun x ox => (OcL_s ox).imp id (fun q => q.2)
  have bnd : ∀ x : Int32, OcL b g (re.2.1 0) gr x → ¬ x.toInt.toNat / 2 = b + g := fun x ox => by have := OcL_b G (by omega) ox; omega
  have ij : (gr.2.1 4 (b + g)).toInt.toNat / 2 < (gr.2.1 5 (b + g)).toInt.toNat / 2 := by omega
  have jg : (gr.2.1 5 (b + g)).toInt.toNat / 2 < b + g := by omega
  generalize gr.2.1 4 (b + g) = lo at ol ol' cut ij gg
  generalize gr.2.1 5 (b + g) = hi at oh oh' cut ij jg gg
  refine ⟨fun k k1 k2 => ?_, fun x ox => ?_, fun k k1 k2 => ?_, fun k k1 k2 => ?_⟩
  · show upd (upd (om.2.1 50) (lo.toInt.toNat / 2) (ga b (re.2.1 1) lo)) (hi.toInt.toNat / 2) (ga b (re.2.1 1) hi) k = upd (upd (upd (re.2.1 3) (b + g) 0) (lo.toInt.toNat / 2) (ga b (re.2.1 1) lo)) (hi.toInt.toNat / 2) (ga b (re.2.1 1) hi) k
    by_cases ej : k = hi.toInt.toNat / 2
    · rw [ej, up_s, up_s]
    · rw [up_o ej, up_o ej]
      by_cases ei : k = lo.toInt.toNat / 2
      · rw [ei, up_s, up_s]
      · rw [up_o ei, up_o ei]
        by_cases eg : k = b + g
        · rw [eg, up_s]; exact A3 _ (by omega) (by have := G.1; omega)
        · rw [up_o eg]; exact A1 k k1 (by omega)
  · have ox : OcL b (g + 1) (re.2.1 0) gr x := ox
    show upd (upd (upd (re.2.1 3) (b + g) 0) (lo.toInt.toNat / 2) (ga b (re.2.1 1) lo)) (hi.toInt.toNat / 2) (ga b (re.2.1 1) hi) (x.toInt.toNat / 2) = ga b (re.2.1 1) x
    have oxn := OcL_m ox (show g + 1 ≤ n by omega)
    by_cases ej : x.toInt.toNat / 2 = hi.toInt.toNat / 2
    · rw [ej, up_s]; exact (ga_u ej (U x hi oxn oh ej)).symm
    · rw [up_o ej]
      by_cases ei : x.toInt.toNat / 2 = lo.toInt.toNat / 2
      · rw [ei, up_s]; exact (ga_u ei (U x lo oxn ol ei)).symm
      · rw [up_o ei]
        rcases cut x ox with o | o | o
        · rw [up_o (bnd x o)]; exact A2 x o
        · rw [o] at ei; exact absurd rfl ei
        · rw [o] at ej; exact absurd rfl ej
  · show upd (upd (om.2.1 50) (lo.toInt.toNat / 2) (ga b (re.2.1 1) lo)) (hi.toInt.toNat / 2) (ga b (re.2.1 1) hi) k = 0
    rw [up_o (by omega), up_o (by omega)]; exact A3 k (by omega) k2
  · have k2 : ¬ upd (upd (om.2.1 50) (lo.toInt.toNat / 2) (ga b (re.2.1 1) lo)) (hi.toInt.toNat / 2) (ga b (re.2.1 1) hi) k = 0 := k2
    show ∃ x : Int32, OcL b (g + 1) (re.2.1 0) gr x ∧ x.toInt.toNat / 2 = k ∧ GAq b (re.2.1 1) x
    by_cases ej : k = hi.toInt.toNat / 2
    · rw [ej, up_s] at k2
      exact ⟨hi, oh', ej.symm, Classical.byContradiction (fun z => k2 (ga_0 z))⟩
    · rw [up_o ej] at k2
      by_cases ei : k = lo.toInt.toNat / 2
      · rw [ei, up_s] at k2
        exact ⟨lo, ol', ei.symm, Classical.byContradiction (fun z => k2 (ga_0 z))⟩
      · rw [up_o ei] at k2
        obtain ⟨x, x1, x2⟩ := A4 k k1 k2
        exact ⟨x, OcL_m x1 (by omega), x2⟩
theorem ap_n {b n g : Nat} {gr re om : cf_O} (G : GW b n gr) (gn : g < n) (A : ApI b g gr re om) (z : re.2.1 0 (b + g) = 0) : ApI b (g + 1) gr (xp re 3 (b + g) 0) om := by
  obtain ⟨A1, A2, A3, A4⟩ := A
  have cut : ∀ x : Int32, OcL b (g + 1) (re.2.1 0) gr x → OcL b g (re.2.1 0) gr x := fun x ox => (OcL_s ox).elim id (fun q => absurd z q.1)
  refine ⟨fun k k1 k2 => ?_, fun x ox => ?_, fun k k1 k2 => A3 k (by omega) k2, fun k k1 k2 => ?_⟩
  · show om.2.1 50 k = upd (re.2.1 3) (b + g) 0 k
    by_cases eg : k = b + g
    · rw [eg, up_s]; exact A3 _ (by omega) (by have := G.1; omega)
    · rw [up_o eg]; exact A1 k k1 (by omega)
  · have o := cut x ox
    have bx := OcL_b G (by omega) o
    show upd (re.2.1 3) (b + g) 0 (x.toInt.toNat / 2) = ga b (re.2.1 1) x
    rw [up_o (by omega)]; exact A2 x o
  · obtain ⟨x, x1, x2⟩ := A4 k k1 k2
    exact ⟨x, OcL_m x1 (by omega), x2⟩
theorem ap_go {b n : Nat} {gr RE OM : cf_O} (G : GW b n gr) (R : RGq b n gr OM) (N : NdS (b + n) RE OM) (U : UQ b n (RE.2.1 0) (RE.2.1 1) gr) : ∀ (f1 f2 : Nat) (v2 v1 : Int32) (g : Nat) (re om rc rm : cf_O), v1.toInt = (g : Int) → g ≤ n → v2.toInt = ((b + g : Nat) : Int) → Fr (fr_M [] [3] []) RE re → Fr (fr_M [] [50] []) OM om → ApI b g gr re om → gRe_findApart f1 0 v2 re gr = some rc → gM_look f2 3 v1 om = some rm → Fr (fr_M [] [3] []) RE rc ∧ Fr (fr_M [] [50] []) OM rm ∧ ApI b n gr rc rm
  | 0, f2, v2, v1, g, re, om, rc, rm, e1, gn, e2, fr, fo, A, q1, q2 => by cases q1
  | f1 + 1, 0, v2, v1, g, re, om, rc, rm, e1, gn, e2, fr, fo, A, q1, q2 => by cases q2
  | f1 + 1, f2 + 1, v2, v1, g, re, om, rc, rm, e1, gn, e2, fr, fo, A, q1, q2 => by
    have G0 := G.1
    have q1 : fRe_findApart_7 (gRe_findApart f1) v2 re gr = some rc := q1
    have q2 : fM_look_178 (gM_look f2) v1 om = some rm := q2
    obtain ⟨s, hs, q1⟩ := fa_7 q1
    have es := size_sp G hs
    have R' : RGq b n gr om := by
      have R0 := R
      unfold RGq at R0 ⊢
      rw [fo.1 43 rfl, fo.1 39 rfl, fo.1 40 rfl, fo.2.1 44 rfl, fo.2.1 45 rfl, fo.2.1 46 rfl, fo.2.1 47 rfl]; exact R0
    have n43 := R'.1.1
    rcases q1 with ⟨a, er⟩ | ⟨a, q1⟩
    · rcases lk_178 q2 with ⟨_, em⟩ | ⟨d, _⟩
      · have eg : g = n := by omega
        subst eg; subst er; subst em
        exact ⟨fr, fo, A⟩
      · omega
    · rcases lk_178 q2 with ⟨d, _⟩ | ⟨d, q, hq, q2⟩
      · omega
      have eb := base_sp R' hq
      have N' : NdS (b + n) re om := by
        unfold NdS
        rw [fr.2.1 0 rfl, fr.2.1 1 rfl, fo.2.1 48 rfl, fo.2.1 49 rfl]; exact N
      have U' : UQ b n (re.2.1 0) (re.2.1 1) gr := by rw [fr.2.1 0 rfl, fr.2.1 1 rfl]; exact U
      have i2 : v2.toNatClampNeg = b + g := by have := tn_n v2; omega
      have i1 : v1.toNatClampNeg = g := by have := tn_n v1; omega
      have eqv : (q + v1).toInt = ((b + g : Nat) : Int) := by rw [Int32.toInt_add, eb, i_bm (by omega) (by omega)]; omega
      have iq : (q + v1).toNatClampNeg = b + g := by have := tn_n (q + v1); omega
      have p2 := p_1 (v := v2) (by omega) (by omega)
      have p1 := p_1 (v := v1) (by omega) (by omega)
      rw [i2] at q1
      rw [iq, i1] at q2
      have nb := N' (b + g) (by omega)
      have gl := R'.2.1 g (by omega)
      have gb := G.2.1 g (by omega)
      rcases q1 with ⟨z1, q1⟩ | ⟨z1, u, w, hu, hw, q1⟩
      · rcases q2 with ⟨_, q2⟩ | ⟨z2, _⟩
        · exact ap_go G R N U f1 f2 (v2 + 1) (v1 + 1) (g + 1) (xp re 3 (b + g) 0) om rc rm (by omega) (by omega) (by omega) (fr_xp fr rfl) fo (ap_n G (by omega) A z1) q1 q2
        · rw [nb.1] at z2; exact absurd z1 z2
      · rcases q2 with ⟨z2, _⟩ | ⟨_, y, z, my, mz, q2⟩
        · rw [nb.1] at z2; exact absurd z2 z1
        · have eu := mark_sp G (by omega) (by omega) hu
          have ew := mark_sp G (by omega) (by omega) hw
          rw [gl.1, hf_i (by omega)] at my
          rw [gl.1, gl.2, hf_i (by omega), hf_i (by omega)] at mz
          rw [gl.1, gl.2, hf_i (by omega), hf_i (by omega)] at q2
          have oy : OcL b n (re.2.1 0) gr (gr.2.1 4 (b + g)) := ⟨g, by omega, z1, Or.inl rfl⟩
          have oz : OcL b n (re.2.1 0) gr (gr.2.1 5 (b + g)) := ⟨g, by omega, z1, Or.inr rfl⟩
          have ey := mkA_ga G gn R' N' U' A.2.2.2 oy my
          have mz2 : MkA (gr.2.1 5 (b + g)) om ((gr.2.1 5 (b + g)).toInt.toNat / 2) z := by
            have ne : ¬ (gr.2.1 5 (b + g)).toInt.toNat / 2 = (gr.2.1 4 (b + g)).toInt.toNat / 2 := by omega
            rcases mz with ⟨m1, m2⟩ | ⟨m1, t, m2, m3⟩
            · have m1 : ¬ upd (om.2.1 50) ((gr.2.1 4 (b + g)).toInt.toNat / 2) y ((gr.2.1 5 (b + g)).toInt.toNat / 2) = 0 := m1
              rw [up_o ne] at m1
              exact Or.inl ⟨m1, m2⟩
            · have m1 : upd (om.2.1 50) ((gr.2.1 4 (b + g)).toInt.toNat / 2) y ((gr.2.1 5 (b + g)).toInt.toNat / 2) = 0 := m1
              rw [up_o ne] at m1
              exact Or.inr ⟨m1, t, m2, m3⟩
          have ez := mkA_ga G gn R' N' U' A.2.2.2 oz mz2
          have ew : w = xp u 3 ((gr.2.1 5 (b + g)).toInt.toNat / 2) (ga b (u.2.1 1) (gr.2.1 5 (b + g))) := ew
          subst eu
          subst ew
          rw [ey, ez] at q2
          exact ap_go G R N U f1 f2 (v2 + 1) (v1 + 1) (g + 1) _ _ rc rm (by omega) (by omega) (by omega) (fr_xp (fr_xp (fr_xp fr rfl) rfl) rfl) (fr_xp (fr_xp fo rfl) rfl) (ap_s G (by omega) U' A z1) q1 q2
