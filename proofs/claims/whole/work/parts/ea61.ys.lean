def WpX (b n c : Nat) (gr li O : cf_O) : Prop := GW b n gr ∧ FcQ c (faL li) ∧ ∀ x : Nat, 2 ≤ x → x < 2 * (b + n) → ¬ wvM O x = 0 → ¬ wvM O x = NOM → (celW (wvM O x) < c ∧ 1 ≤ (faL li (4 * celW (wvM O x) + 2)).toInt ∧ (faL li (4 * celW (wvM O x) + 2)).toInt ≤ 3) ∧ ∀ y : Nat, PiQ (faL li) (wvM O) x y → 2 ≤ y ∧ y / 2 ≤ x / 2 ∧ ¬ wvM O y = NOM
theorem wp_pin {b n c x m : Nat} {gr li O : cf_O} {v3 v4 v5 : Int32} (X : WpX b n c gr li O) (x2 : 2 ≤ x) (xN : x < 2 * (b + n)) (e5 : v5.toInt = (x : Int)) (w0 : ¬ wvM O x = 0) (wn : ¬ wvM O x = NOM) : ∀ (fu k : Nat) (v6 : Int32) (o r : cf_O), v6.toInt = (k : Int) → k ≤ 3 → Fr (fr_M [] [6] []) O o → (∀ y : Nat, o.2.1 6 y = 1 ↔ (O.2.1 6 y = 1 ∨ ∃ j : Nat, j < k ∧ (j : Int) < (faL li (4 * celW (wvM O x) + 2)).toInt ∧ y = pinW (wvM O x) j)) → (∀ y : Nat, o.2.1 6 y = 0 ∨ o.2.1 6 y = 1) → gMp_wantPins fu 2 v3 v4 v5 v6 o gr li = some r → ∃ (fu' : Nat) (o' : cf_O), Fr (fr_M [] [6] []) O o' ∧ (∀ y : Nat, o'.2.1 6 y = 1 ↔ (O.2.1 6 y = 1 ∨ PiQ (faL li) (wvM O) x y)) ∧ (∀ y : Nat, o'.2.1 6 y = 0 ∨ o'.2.1 6 y = 1) ∧ gMp_wantPins fu' 1 v3 (v4 + 1) 0 0 o' gr li = some r
  | 0, k, v6, o, r, e6, hk, fo, H, B, h => by cases h
  | fu + 1, k, v6, o, r, e6, hk, fo, H, B, h => by
    have X0 := X
    obtain ⟨G, hF, px⟩ := X
    have G0 := G.1
    obtain ⟨⟨p1, p2, p3⟩, p4⟩ := px x x2 xN w0 wn
    have h : fMp_wantPins_58 (gMp_wantPins fu) v3 v4 v5 v6 o gr li = some r := h
    unfold fMp_wantPins_58 at h
    have h := (ifn h).2
    rw [opk, tW e5] at h
    obtain ⟨q, hq, h⟩ := bd h
    have eq := cellOf_sp hq
    rw [fo.2.2 4 rfl] at eq
    have eq : q.toInt = (celW (wvM O x) : Int) := eq
    have h := (ifn h).2
    have f5 := (faL_0 (li := li) (i := celW (wvM O x))).2.2.1
    rw [f5] at p2 p3
    rw [opk, tW eq] at h
    rcases ifc h with ⟨a, h⟩ | ⟨a, h⟩
    · have a := c_le a
      unfold fMp_wantPins_102 at h
      rw [opk] at h
      refine ⟨fu, o, fo, fun y => (H y).trans (or_congr Iff.rfl ⟨?_, ?_⟩), B, h⟩
      · rintro ⟨j, j1, j2, j3⟩
        exact ⟨j, j2, by omega, j3⟩
      · rintro ⟨j, j1, j2, j3⟩
        have j1' := j1
        rw [f5] at j1'
        exact ⟨j, by omega, j1, j3⟩
    · have a := c_nle a
      have h := (ifn h).2
      rw [opk] at h
      obtain ⟨z, hz, h⟩ := bd h
      have ez := pinOf_sp hz (by omega) (by omega)
      rw [fo.2.2 4 rfl, e6] at ez
      have ez : z.toInt = (pinW (wvM O x) k : Int) := ez
      have h := (ifn h).2
      rw [opk, opk, tW ez, vb_1] at h
      refine wp_pin (m := m) X0 x2 xN e5 w0 wn fu (k + 1) (v6 + 1) (xp o 6 (pinW (wvM O x) k) 1) r (by rw [pW (by omega) (by omega)]; omega) (by omega) (fr_xp fo rfl) (fun y => ?_) (fun y => ?_) h
      · show upd (o.2.1 6) (pinW (wvM O x) k) 1 y = 1 ↔ _
        by_cases ey : y = pinW (wvM O x) k
        · rw [ey, up_s]
          exact ⟨fun _ => Or.inr ⟨k, by omega, by rw [f5]; omega, rfl⟩, fun _ => rfl⟩
        · rw [up_o ey, H y]
          refine or_congr Iff.rfl ⟨?_, ?_⟩
          · rintro ⟨j, j1, j2, j3⟩; exact ⟨j, by omega, j2, j3⟩
          · rintro ⟨j, j1, j2, j3⟩
            have : ¬ j = k := fun e => ey (by rw [j3, e])
            exact ⟨j, by omega, j2, j3⟩
      · show upd (o.2.1 6) (pinW (wvM O x) k) 1 y = 0 ∨ upd (o.2.1 6) (pinW (wvM O x) k) 1 y = 1
        by_cases ey : y = pinW (wvM O x) k
        · rw [ey, up_s]; exact Or.inr rfl
        · rw [up_o ey]; exact B y
def WlE (O o : cf_O) (fa : Nat → Int32) (x : Nat) : Prop := Fr (fr_M [] [6] []) O o ∧ (∀ y : Nat, o.2.1 6 y = 1 ↔ (O.2.1 6 y = 1 ∨ (O.2.1 6 x = 1 ∧ ¬ wvM O x = 0 ∧ PiQ fa (wvM O) x y))) ∧ ∀ y : Nat, o.2.1 6 y = 0 ∨ o.2.1 6 y = 1
theorem wp_lit {b n c m k x : Nat} {gr li O r : cf_O} {v3 v4 w5 w6 : Int32} (X : WpX b n c gr li O) (e3 : v3.toInt = (m : Int)) (m1 : 1 ≤ m) (mN : m < b + n) (e4 : v4.toInt = (k : Int)) (hk : k < 4) (ex : x = 2 * m + k % 2) (B : ∀ y : Nat, O.2.1 6 y = 0 ∨ O.2.1 6 y = 1) (wn : O.2.1 6 x = 1 → ¬ wvM O x = NOM) {fu : Nat} (h : gMp_wantPins fu 1 v3 v4 w5 w6 O gr li = some r) : ∃ (fu' : Nat) (o' : cf_O) (u5 u6 : Int32), WlE O o' (faL li) x ∧ gMp_wantPins fu' 1 v3 (v4 + 1) u5 u6 o' gr li = some r := by
  cases fu with
  | zero => cases h
  | succ fu =>
    have G0 := X.1.1
    have h : fMp_wantPins_14 (gMp_wantPins fu) v3 v4 O gr li = some r := h
    unfold fMp_wantPins_14 at h
    rw [if_neg (fun z => by have z : 4 ≤ v4.toInt := c_le z; omega)] at h
    have ea : (v4 &&& 1).toInt = ((k % 2 : Nat) : Int) := by
      rw [on_i e4]
      rcases (show k = 0 ∨ k = 1 ∨ k = 2 ∨ k = 3 by omega) with e | e | e | e <;> subst e <;> decide
    have el : (2 * v3 + (v4 &&& 1)).toInt = (x : Int) := by rw [addk (mul2 e3 (by omega)) ea (by omega) (by omega), ex]
    rw [opk, opk, opk] at h
    generalize 2 * v3 + (v4 &&& 1) = v5 at h el
    have h := (ifn h).2
    rw [opk, tW el] at h
    rcases ifc h with ⟨a, h⟩ | ⟨a, h⟩
    · unfold fMp_wantPins_102 at h
      rw [opk] at h
      exact ⟨fu, O, 0, 0, ⟨fr_rfl, fun y => ⟨Or.inl, fun z => z.elim id (fun z => by rw [a] at z; exact absurd z.1 (by decide))⟩, B⟩, h⟩
    · have w1 : O.2.1 6 x = 1 := (B x).resolve_left a
      have h := (ifn h).2
      rw [opk, opk] at h
      rcases ifc h with ⟨d, h⟩ | ⟨d, h⟩
      · have d := (lg_cmp_eq _ _).mp d
        unfold fMp_wantPins_102 at h
        rw [opk] at h
        refine ⟨fu, O, 0, 0, ⟨fr_rfl, fun y => ⟨Or.inl, fun z => z.elim id (fun z => absurd ?_ z.2.1)⟩, B⟩, h⟩
        show nv (O.2.2 4 x) = 0
        rw [d]; rfl
      · have d : ¬ wvM O x = 0 := fun q => d ((lg_cmp_eq _ _).mpr (nv_inj q))
        obtain ⟨fu', o', q1, q2, q3, q4⟩ := wp_pin (m := m) X (by omega) (by omega) el d (wn w1) fu 0 0 O r rfl (by decide) fr_rfl (fun y => ⟨Or.inl, fun z => z.elim id (fun ⟨j, hj, _⟩ => absurd hj (by omega))⟩) B h
        exact ⟨fu', o', 0, 0, ⟨q1, fun y => (q2 y).trans (or_congr Iff.rfl ⟨fun z => ⟨w1, d, z⟩, fun z => z.2.2⟩), q3⟩, q4⟩
def ClC (O o : cf_O) (fa : Nat → Int32) (x : Nat) : Prop := o.2.1 6 x = 1 → ¬ wvM O x = 0 → ∀ y : Nat, PiQ fa (wvM O) x y → o.2.1 6 y = 1
def WaS (b n c m : Nat) (gr li O o : cf_O) (I : Nat → Prop) : Prop := Fr (fr_M [] [6] []) O o ∧ (∀ y : Nat, o.2.1 6 y = 0 ∨ o.2.1 6 y = 1) ∧ (∀ y : Nat, I y → o.2.1 6 y = 1) ∧ (∀ x : Nat, x < 2 * (b + n) → o.2.1 6 x = 1 → ¬ wvM O x = NOM) ∧ (∀ S : Nat → Prop, (∀ x : Nat, I x → S x) → (∀ x y : Nat, S x → 2 ≤ x → x < 2 * (b + n) → ¬ wvM O x = 0 → PiQ (faL li) (wvM O) x y → S y) → ∀ x : Nat, x < 2 * (b + n) → o.2.1 6 x = 1 → S x) ∧ ∀ x : Nat, m < x / 2 → x < 2 * (b + n) → ClC O o (faL li) x
theorem was_lit {b n c m x : Nat} {gr li O o o' : cf_O} {I : Nat → Prop} (X : WpX b n c gr li O) (S : WaS b n c m gr li O o I) (x2 : 2 ≤ x) (xm : x / 2 = m) (mN : m < b + n) (E : WlE o o' (faL li) x) : WaS b n c m gr li O o' I ∧ ClC O o' (faL li) x ∧ (∀ y : Nat, o.2.1 6 y = 1 → o'.2.1 6 y = 1) ∧ (∀ z : Nat, ClC O o (faL li) z → ¬ o'.2.1 6 z = 1 ∨ o.2.1 6 z = 1 → ClC O o' (faL li) z) ∧ (∀ y : Nat, o'.2.1 6 y = 1 → o.2.1 6 y = 1 ∨ (o.2.1 6 x = 1 ∧ ¬ wvM O x = 0 ∧ PiQ (faL li) (wvM O) x y)) := by
  obtain ⟨s1, s2, s3, s4, s5, s6⟩ := S
  obtain ⟨e1, e2, e3⟩ := E
  have ew : wvM o = wvM O := by funext y; show nv (o.2.2 4 y) = nv (O.2.2 4 y); rw [s1.2.2 4 rfl]
  rw [ew] at e2
  have mono : ∀ y : Nat, o.2.1 6 y = 1 → o'.2.1 6 y = 1 := fun y hy => (e2 y).mpr (Or.inl hy)
  have keep : ∀ z : Nat, ClC O o (faL li) z → ¬ o'.2.1 6 z = 1 ∨ o.2.1 6 z = 1 → ClC O o' (faL li) z := fun z hz hw q1 q2 y hy => mono y (hz (hw.resolve_left (fun w => w q1)) q2 y hy)
  have pin : o.2.1 6 x = 1 → ¬ wvM O x = 0 → ∀ y : Nat, PiQ (faL li) (wvM O) x y → 2 ≤ y ∧ y / 2 ≤ x / 2 ∧ ¬ wvM O y = NOM := fun q1 q2 y hy => (X.2.2 x x2 (by omega) q2 (s4 x (by omega) q1)).2 y hy
  refine ⟨⟨fr_tr s1 e1 rfl rfl rfl, e3, fun y hy => mono y (s3 y hy), fun y yN hy => ?_, fun T t1 t2 y yN hy => ?_, fun z z1 z2 => keep z (s6 z z1 z2) ?_⟩, fun q1 q2 y hy => ?_, mono, keep, fun y hy => (e2 y).mp hy⟩
  · rcases (e2 y).mp hy with q | ⟨q1, q2, q3⟩
    · exact s4 y yN q
    · exact (pin q1 q2 y q3).2.2
  · rcases (e2 y).mp hy with q | ⟨q1, q2, q3⟩
    · exact s5 T t1 t2 y yN q
    · exact t2 x y (s5 T t1 t2 x (by omega) q1) x2 (by omega) q2 q3
  · by_cases q : o'.2.1 6 z = 1
    · rcases (e2 z).mp q with q | ⟨q1, q2, q3⟩
      · exact Or.inr q
      · have := pin q1 q2 z q3
        omega
    · exact Or.inl q
  · rcases (e2 x).mp q1 with q | ⟨q, _⟩
    · exact (e2 y).mpr (Or.inr ⟨q, q2, hy⟩)
    · exact (e2 y).mpr (Or.inr ⟨q, q2, hy⟩)
theorem wp_node {b n c m : Nat} {gr li O o r : cf_O} {v3 w4 w5 w6 : Int32} {I : Nat → Prop} {fu : Nat} (X : WpX b n c gr li O) (e3 : v3.toInt = (m : Int)) (m1 : 1 ≤ m) (mN : m < b + n) (S : WaS b n c m gr li O o I) (h : gMp_wantPins fu 0 v3 w4 w5 w6 o gr li = some r) : ∃ (fu' : Nat) (o' : cf_O), WaS b n c (m - 1) gr li O o' I ∧ gMp_wantPins fu' 0 (v3 + (-1)) 0 0 0 o' gr li = some r := by
  cases fu with
  | zero => cases h
  | succ fu =>
    have h : fMp_wantPins_7 (gMp_wantPins fu) v3 o gr li = some r := h
    unfold fMp_wantPins_7 at h
    rw [if_neg (fun z => by have z : v3.toInt ≤ 0 := c_le z; omega)] at h
    have cx : ∀ q : cf_O, WaS b n c m gr li O q I → WpX b n c gr li q := fun q Sq => by
      have ew : wvM q = wvM O := by funext y; show nv (q.2.2 4 y) = nv (O.2.2 4 y); rw [Sq.1.2.2 4 rfl]
      refine ⟨X.1, X.2.1, ?_⟩
      rw [ew]; exact X.2.2
    have wn : ∀ (q : cf_O) (x : Nat), x < 2 * (b + n) → WaS b n c m gr li O q I → q.2.1 6 x = 1 → ¬ wvM q x = NOM := fun q x xN Sq hx => by
      have ew : wvM q x = wvM O x := by show nv (q.2.2 4 x) = nv (O.2.2 4 x); rw [Sq.1.2.2 4 rfl]
      rw [ew]; exact Sq.2.2.2.1 x xN hx
    obtain ⟨f1, o1, a1, a2, E1, h⟩ := wp_lit (x := 2 * m) (cx o S) e3 m1 mN (k := 0) rfl (by decide) (by omega) S.2.1 (wn o _ (by omega) S) h
    obtain ⟨S1, c10, u1, k1, _⟩ := was_lit X S (by omega) (by omega) mN E1
    obtain ⟨f2, o2, a1, a2, E2, h⟩ := wp_lit (x := 2 * m + 1) (cx o1 S1) e3 m1 mN (k := 1) rfl (by decide) (by omega) S1.2.1 (wn o1 _ (by omega) S1) h
    obtain ⟨S2, c21, u2, k2, n2⟩ := was_lit X S1 (by omega) (by omega) mN E2
    obtain ⟨f3, o3, a1, a2, E3, h⟩ := wp_lit (x := 2 * m) (cx o2 S2) e3 m1 mN (k := 2) rfl (by decide) (by omega) S2.2.1 (wn o2 _ (by omega) S2) h
    obtain ⟨S3, c30, u3, k3, n3⟩ := was_lit X S2 (by omega) (by omega) mN E3
    obtain ⟨f4, o4, a1, a2, E4, h⟩ := wp_lit (x := 2 * m + 1) (cx o3 S3) e3 m1 mN (k := 3) rfl (by decide) (by omega) S3.2.1 (wn o3 _ (by omega) S3) h
    obtain ⟨S4, c41, u4, k4, n4⟩ := was_lit X S3 (by omega) (by omega) mN E4
    have c40 : ClC O o4 (faL li) (2 * m) := by
      by_cases z : o3.2.1 6 (2 * m) = 1
      · exact k4 _ c30 (Or.inr z)
      · by_cases z4 : o4.2.1 6 (2 * m) = 1
        · rcases n4 _ z4 with q | ⟨q1, q2, q3⟩
          · exact absurd q z
          · have w2 : ¬ o2.2.1 6 (2 * m) = 1 := fun q => z (u3 _ q)
            rcases n3 _ q1 with y | ⟨y, _⟩
            · exact absurd (u3 _ (c21 y q2 _ q3)) z
            · exact absurd y w2
        · exact k4 _ c30 (Or.inl z4)
    cases f4 with
    | zero => cases h
    | succ f4 =>
      have h : fMp_wantPins_14 (gMp_wantPins f4) v3 _ o4 gr li = some r := h
      unfold fMp_wantPins_14 at h
      rw [if_pos (by decide), opk] at h
      refine ⟨f4, o4, ?_, h⟩
      obtain ⟨s1, s2, s3, s4, s5, s6⟩ := S4
      refine ⟨s1, s2, s3, s4, s5, fun x x1 x2 => ?_⟩
      by_cases ex : m < x / 2
      · exact s6 x ex x2
      · rcases (show x = 2 * m ∨ x = 2 * m + 1 by omega) with e | e
        · rw [e]; exact c40
        · rw [e]; exact c41
theorem wp_all {b n c : Nat} {gr li O : cf_O} {I : Nat → Prop} (X : WpX b n c gr li O) : ∀ (m : Nat) (fu : Nat) (v3 w4 w5 w6 : Int32) (o r : cf_O), v3.toInt = (m : Int) → m < b + n → WaS b n c m gr li O o I → gMp_wantPins fu 0 v3 w4 w5 w6 o gr li = some r → WaS b n c 0 gr li O r I
  | 0, fu, v3, w4, w5, w6, o, r, e3, mN, S, h => by
    cases fu with
    | zero => cases h
    | succ fu =>
      have h : fMp_wantPins_7 (gMp_wantPins fu) v3 o gr li = some r := h
      unfold fMp_wantPins_7 at h
      rw [if_pos (Int32.le_iff_toInt_le.mpr (by rw [e3]; decide))] at h
      rw [← Option.some.inj h]; exact S
  | m + 1, fu, v3, w4, w5, w6, o, r, e3, mN, S, h => by
    obtain ⟨fu', o', S', h'⟩ := wp_node X e3 (by omega) mN S h
    have G0 := X.1.1
    have e : (v3 + (-1)).toInt = (m : Int) := by rw [i_add (by rw [e3]; show -2147483648 ≤ ((m + 1 : Nat) : Int) + -1; omega) (by rw [e3]; show ((m + 1 : Nat) : Int) + -1 ≤ 2147483647; omega), e3]; show ((m + 1 : Nat) : Int) + -1 = _; omega
    generalize v3 + (-1) = v9 at h' e
    exact wp_all X m fu' v9 0 0 0 o' r e (by omega) S' h'
