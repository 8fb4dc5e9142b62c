def WfQ (b n : Nat) (li mp : cf_O) (I : Nat → Prop) : Prop := (∀ y : Nat, mp.2.1 6 y = 0 ∨ mp.2.1 6 y = 1) ∧ (∀ y : Nat, I y → mp.2.1 6 y = 1) ∧ (∀ x : Nat, x < 2 * (b + n) → mp.2.1 6 x = 1 → ¬ wvM mp x = NOM) ∧ (∀ S : Nat → Prop, (∀ x : Nat, I x → S x) → (∀ x y : Nat, S x → 2 ≤ x → x < 2 * (b + n) → ¬ wvM mp x = 0 → PiQ (faL li) (wvM mp) x y → S y) → ∀ x : Nat, x < 2 * (b + n) → mp.2.1 6 x = 1 → S x) ∧ ∀ x : Nat, 0 < x / 2 → x < 2 * (b + n) → mp.2.1 6 x = 1 → ¬ wvM mp x = 0 → ∀ y : Nat, PiQ (faL li) (wvM mp) x y → mp.2.1 6 y = 1
def FiE (b n c M : Nat) (gr li MQ : cf_O) (r : Int32 × cf_O × cf_O) : Prop := (r.1 = 0 ∧ ∃ k : Nat, k < M ∧ wvM MQ (otN gr k) = NOM) ∨ (r.1 = 1 ∧ (∀ k : Nat, k < M → ¬ wvM MQ (otN gr k) = NOM) ∧ r.2.1.2.2 4 = MQ.2.2 4 ∧ WfQ b n li r.2.1 (fun y => ∃ k : Nat, k < M ∧ y = otN gr k) ∧ LiC li r.2.1 r.2.1 (flN (ipC r.2.1) (2 * (b + n))) ∧ (r.2.1.1 2).toInt = (tmO (wvM MQ) gr M : Int))
theorem tmO_b {w : Nat → Nat} {gr : cf_O} {B : Nat} : ∀ M : Nat, (∀ k : Nat, k < M → w (otN gr k) / 2 ^ 44 ≤ B) → tmO w gr M ≤ B
  | 0, _ => Nat.zero_le _
  | M + 1, h => by
    have := tmO_b M (fun k hk => h k (by omega))
    have := h M (by omega)
    show max (tmO w gr M) (w (otN gr M) / 2 ^ 44) ≤ B
    omega
theorem fi_go {b n c M : Nat} {gr cu li MQ : cf_O} (X : WpX b n c gr li MQ) (hN : b + n ≤ 209) (eM : (gr.1 1).toInt = (M : Int)) (ou : ∀ k : Nat, k < M → 0 ≤ (gr.2.1 7 k).toInt ∧ otN gr k < 2 * (b + n)) (M6 : M ≤ 6) (le : ∀ x : Nat, x < 2 * (b + n) → wvM MQ x ≤ NOM) : ∀ fu : Nat,
    (∀ (l : Nat) (v5 : Int32) (o co : cf_O) (r : Int32 × cf_O × cf_O), v5.toInt = (l : Int) → l ≤ 2 * (b + n) → Fr (fr_M [2] [6] []) MQ o → (o.1 2).toInt = 0 → (∀ y : Nat, o.2.1 6 y = 0 ∨ o.2.1 6 y = 1) → (∀ j : Nat, j < l → o.2.1 6 j = 0) → gMp_find fu 0 v5 o gr cu co li = some r → FiE b n c M gr li MQ r) ∧
    (∀ (k : Nat) (v5 : Int32) (o co : cf_O) (r : Int32 × cf_O × cf_O), v5.toInt = (k : Int) → k ≤ M → Fr (fr_M [2] [6] []) MQ o → (o.1 2).toInt = (tmO (wvM MQ) gr k : Int) → (∀ y : Nat, o.2.1 6 y = 0 ∨ o.2.1 6 y = 1) → (∀ y : Nat, y < 2 * (b + n) → (o.2.1 6 y = 1 ↔ ∃ j : Nat, j < k ∧ y = otN gr j)) → (∀ j : Nat, j < k → ¬ wvM MQ (otN gr j) = NOM) → gMp_find fu 1 v5 o gr cu co li = some r → FiE b n c M gr li MQ r)
  | 0 => ⟨fun _ _ _ _ _ _ _ _ _ _ _ h => (by cases h), fun _ _ _ _ _ _ _ _ _ _ _ _ h => (by cases h)⟩
  | fu + 1 => by
    obtain ⟨i0, i1⟩ := fi_go (cu := cu) X hN eM ou M6 le fu
    have G := X.1
    have G0 := G.1
    refine ⟨?_, ?_⟩
    · intro l v5 o co r e5 hl fo t0 B H h
      have h : fMp_find_31 (gMp_find fu) v5 o gr cu co li = some r := h
      unfold fMp_find_31 at h
      obtain ⟨q, hq, h⟩ := bd h
      have e2 := mul2 (size_sp G hq) (show b + n < 100000 by omega)
      rw [opk] at h
      rcases ifc h with ⟨a, h⟩ | ⟨a, h⟩
      · have a := c_le a
        refine i1 0 0 o co r rfl (Nat.zero_le _) fo t0 B (fun y hy => ⟨fun z => ?_, fun ⟨j, hj, _⟩ => absurd hj (by omega)⟩) (fun j hj => absurd hj (by omega)) h
        rw [H y (by omega)] at z; exact absurd z (by decide)
      · have a := c_nle a
        have h := (ifn h).2
        rw [opk, opk, tW e5, vb_0] at h
        refine i0 (l + 1) (v5 + 1) (xp o 6 l 0) co r (by rw [pW (by omega) (by omega)]; omega) (by omega) (fr_xp fo rfl) t0 (fun y => ?_) (fun j hj => ?_) h
        · show upd (o.2.1 6) l 0 y = 0 ∨ upd (o.2.1 6) l 0 y = 1
          by_cases ey : y = l
          · rw [ey, up_s]; exact Or.inl rfl
          · rw [up_o ey]; exact B y
        · show upd (o.2.1 6) l 0 j = 0
          by_cases ej : j = l
          · rw [ej, up_s]
          · rw [up_o ej]; exact H j (by omega)
    · intro k v5 o co r e5 hk fo t0 B H W h
      have h : fMp_find_59 (gMp_find fu) v5 o gr cu co li = some r := h
      unfold fMp_find_59 at h
      have em : o.2.2 4 = MQ.2.2 4 := fo.2.2 4 rfl
      have ewo : wvM o = wvM MQ := by funext y; show nv (o.2.2 4 y) = nv (MQ.2.2 4 y); rw [em]
      rcases ifc h with ⟨a, h⟩ | ⟨a, h⟩
      · have a := c_le a
        have ek : k = M := by omega
        subst ek
        obtain ⟨q2, h2, h⟩ := bd h
        obtain ⟨q4, h4, h⟩ := bd h
        have er := Option.some.inj h
        have Xo : WpX b n c gr li o := ⟨X.1, X.2.1, by rw [ewo]; exact X.2.2⟩
        unfold fMp_wantPins fMp_wantPins_0 at h2
        obtain ⟨z, hz, h2⟩ := bd h2
        have ez := size_sp G hz
        rw [opk] at h2
        have e1 : (z - 1).toInt = ((b + n - 1 : Nat) : Int) := by rw [i_sub (by rw [ez]; show -2147483648 ≤ ((b + n : Nat) : Int) - 1; omega) (by rw [ez]; show ((b + n : Nat) : Int) - 1 ≤ 2147483647; omega), ez]; show ((b + n : Nat) : Int) - 1 = _; omega
        have S0 : WaS b n c (b + n - 1) gr li o o (fun y => ∃ j : Nat, j < k ∧ y = otN gr j) := by
          refine ⟨fr_rfl, B, fun y hy => ?_, fun x xN hx => ?_, fun S s1 _ x xN hx => s1 x ((H x xN).mp hx), fun x x1 x2 => absurd x1 (by omega)⟩
          · obtain ⟨j, j1, j2⟩ := hy
            exact (H y (by rw [j2]; exact (ou j j1).2)).mpr ⟨j, j1, j2⟩
          · obtain ⟨j, j1, j2⟩ := (H x xN).mp hx
            rw [ewo, j2]; exact W j j1
        obtain ⟨s1, s2, s3, s4, s5, s6⟩ := wp_all Xo (b + n - 1) cfFU _ 0 0 0 o q2 e1 (by omega) S0 h2
        have ew2 : wvM q2 = wvM o := by funext y; show nv (q2.2.2 4 y) = nv (o.2.2 4 y); rw [s1.2.2 4 rfl]
        have Xq : WpX b n c gr li q2 := ⟨X.1, X.2.1, by rw [ew2]; exact Xo.2.2⟩
        unfold fMp_takeInstances fMp_takeInstances_0 at h4
        rw [opk, opk] at h4
        have e0 : flN (ipC q2) 2 = [] := rfl
        obtain ⟨f4, L4, _⟩ := ti_go Xq s2 (fun x xN hx => by rw [ew2]; exact s4 x xN hx) hN cfFU 2 2 (fp (fp q2 0 0) 1 0) q4 rfl (by decide) (by omega) (fr_fp (fr_fp fr_rfl rfl) rfl) (by rw [e0]; exact ⟨rfl, fun i x hx => (by cases hx), rfl⟩) (by rw [e0]; exact Nat.zero_le _) h4
        have r21 : r.2.1 = q4 := by rw [← er]
        have ew4 : wvM q4 = wvM o := by rw [← ew2]; funext y; show nv (q4.2.2 4 y) = nv (q2.2.2 4 y); rw [f4.2.2 4 rfl]
        have e6 : q4.2.1 6 = q2.2.1 6 := f4.2.1 6 rfl
        have eip : ipC q2 = ipC q4 := by funext x; unfold ipC; rw [e6, f4.2.2 4 rfl]
        refine Or.inr ⟨by rw [← er], W, by rw [r21, f4.2.2 4 rfl, s1.2.2 4 rfl]; exact em, ?_, ?_, ?_⟩
        · rw [r21]
          unfold WfQ
          rw [e6, ew4]
          exact ⟨s2, s3, s4, s5, fun x x1 x2 => s6 x x1 x2⟩
        · rw [r21, ← eip]
          obtain ⟨l1, l2, l3⟩ := L4
          refine ⟨l1, l2, ?_⟩
          rw [l3, ew4, ew2]
        · rw [r21, f4.1 2 rfl, s1.1 2 rfl]; exact t0
      · have a := c_nle a
        obtain ⟨o1, o2⟩ := ou k (by omega)
        have eo : (gr.2.1 7 k).toInt = (otN gr k : Int) := by unfold otN; omega
        have h := (ifn h).2
        rw [opk, tW e5] at h
        have h := (ifn h).2
        rw [opk, tW eo, opk, em] at h
        rcases ifc h with ⟨z, h⟩ | ⟨z, h⟩
        · have z := (lg_cmp_eq _ _).mp z
          refine Or.inl ⟨by rw [← Option.some.inj h], k, by omega, ?_⟩
          show nv (MQ.2.2 4 (otN gr k)) = NOM
          rw [z]; rfl
        · have z : ¬ wvM MQ (otN gr k) = NOM := fun y => z ((lg_cmp_eq _ _).mpr (nv_inj y))
          have h := (ifn h).2
          rw [opk, vb_1] at h
          have h := (ifn h).2
          have k4 : (xp o 6 (otN gr k) 1).2.2 4 (otN gr k) = MQ.2.2 4 (otN gr k) := by show o.2.2 4 _ = _; rw [em]
          rw [opk, k4] at h
          obtain ⟨u, hu, h⟩ := bd h
          have lek := le (otN gr k) o2
          have eu := time_f hu (by have : nv (MQ.2.2 4 (otN gr k)) ≤ NOM := lek; unfold NOM at this; omega)
          rw [opk, opk, opk] at h
          have k2 : (xp o 6 (otN gr k) 1).1 2 = o.1 2 := rfl
          rw [k2] at h
          refine i1 (k + 1) (v5 + 1) (fp (xp o 6 (otN gr k) 1) 2 (op_mx (o.1 2) u)) co r (by rw [pW (by omega) (by omega)]; omega) (by omega) (fr_fp (fr_xp fo rfl) rfl) ?_ (fun y => ?_) (fun y yN => ?_) (fun j hj => ?_) h
          · show (op_mx (o.1 2) u).toInt = ((max (tmO (wvM MQ) gr k) (wvM MQ (otN gr k) / 2 ^ 44) : Nat) : Int)
            rw [mx_i, t0, eu]
            show max _ ((nv (MQ.2.2 4 (otN gr k)) / 2 ^ 44 : Nat) : Int) = ((max _ (nv (MQ.2.2 4 (otN gr k)) / 2 ^ 44) : Nat) : Int)
            omega
          · show upd (o.2.1 6) (otN gr k) 1 y = 0 ∨ upd (o.2.1 6) (otN gr k) 1 y = 1
            by_cases ey : y = otN gr k
            · rw [ey, up_s]; exact Or.inr rfl
            · rw [up_o ey]; exact B y
          · show upd (o.2.1 6) (otN gr k) 1 y = 1 ↔ _
            by_cases ey : y = otN gr k
            · rw [ey, up_s]; exact ⟨fun _ => ⟨k, by omega, rfl⟩, fun _ => rfl⟩
            · rw [up_o ey, H y yN]
              constructor
              · rintro ⟨j, j1, j2⟩; exact ⟨j, by omega, j2⟩
              · rintro ⟨j, j1, j2⟩
                have : ¬ j = k := fun e => ey (by rw [j2, e])
                exact ⟨j, by omega, j2⟩
          · by_cases ej : j = k
            · rw [ej]; exact z
            · exact W j (by omega)
theorem find_sp {b n c M : Nat} {gr cu li mp co : cf_O} {R : Nat → List (List Nat)} {r : Int32 × cf_O × cf_O} (X : FmX b n c gr cu li R) (hN : b + n ≤ 209) (B6 : ∀ y : Nat, mp.2.1 6 y = 0 ∨ mp.2.1 6 y = 1) (eM : (gr.1 1).toInt = (M : Int)) (ou : ∀ k : Nat, k < M → 0 ≤ (gr.2.1 7 k).toInt ∧ otN gr k < 2 * (b + n)) (M6 : M ≤ 6) (h : fMp_find mp gr cu co li = some r) : ∃ MQ : cf_O, (wvM MQ 0 = 0 ∧ wvM MQ 1 = 0) ∧ TmbQ MQ (b + n) ∧ SwQ b n c (b + n) gr (faL li) (CsC R) (wvM MQ) ∧ FiE b n c M gr li MQ r := by
  have G0 := X.1.1
  have hC := FmX_s X
  unfold fMp_find fMp_find_0 at h
  obtain ⟨q, hq, h⟩ := bd h
  obtain ⟨f1, T1, S1⟩ := findMatches_sp X hq
  have h := (ifn h).2
  rw [opk] at h
  have h := (ifn h).2
  rw [opk, opk, show yp (yp q.1 4 (0 : Int32).toNatClampNeg 0) 4 (1 : Int32).toNatClampNeg 0 = yp (yp q.1 4 0 0) 4 1 0 from rfl] at h
  generalize hm : yp (yp q.1 4 0 0) 4 1 0 = MQ at h
  have m4 : MQ.2.2 4 = vp_updL (vp_updL (q.1.2.2 4) 0 0) 1 0 := by rw [← hm]; rfl
  have w0 : wvM MQ 0 = 0 := by show nv (MQ.2.2 4 0) = 0; rw [m4, uL_o (by decide), uL_s]; rfl
  have w1 : wvM MQ 1 = 0 := by show nv (MQ.2.2 4 1) = 0; rw [m4, uL_s]; rfl
  have wx : ∀ x : Nat, 2 ≤ x → wvM MQ x = wvM q.1 x := fun x hx => by show nv (MQ.2.2 4 x) = nv (q.1.2.2 4 x); rw [m4, uL_o (by omega), uL_o (by omega)]
  have S2 := SwQ_c S1 hC (fun x x2 _ => wx x x2) (by omega)
  have T2 : TmbQ MQ (b + n) := fun x x2 xN => by
    have := T1 x x2 xN
    have e : nv (MQ.2.2 4 x) = nv (q.1.2.2 4 x) := wx x x2
    rw [e]; exact this
  have m6 : MQ.2.1 6 = mp.2.1 6 := by rw [← hm]; show q.1.2.1 6 = _; rw [f1.2.1 6 rfl]
  have WX : WpX b n c gr li MQ := by
    refine ⟨X.1, X.2.1, fun x x2 xN z0 zn => ?_⟩
    have gv : gvB b x = false := by
      cases g : gvB b x with
      | false => rfl
      | true =>
        unfold gvB at g
        have g := of_decide_eq_true g
        have := (S2.1 (x / 2) (by omega) (by omega) (by omega)).1
        rw [show 2 * (x / 2) = x by omega] at this
        exact absurd this z0
    have sp := fun y => sw_pin (y := y) X.2.1 (by omega) hN S2 T2 hC x2 xN gv zn
    exact ⟨⟨(sp 0).1.1, (sp 0).1.2.1, (sp 0).1.2.2.1⟩, fun y hy => (sp y).2 hy⟩
  refine ⟨MQ, ⟨w0, w1⟩, T2, S2, ?_⟩
  refine (fi_go (cu := cu) WX hN eM ou M6 (fun x xN => ?_) cfFU).1 0 0 (fp MQ 2 0) q.2 r rfl (Nat.zero_le _) (fr_fp fr_rfl rfl) rfl (fun y => by show MQ.2.1 6 y = 0 ∨ MQ.2.1 6 y = 1; rw [m6]; exact B6 y) (fun j hj => absurd hj (by omega)) h
  by_cases x2 : 2 ≤ x
  · exact (T2 x x2 xN).1
  · rcases (show x = 0 ∨ x = 1 by omega) with e | e
    · rw [e, w0]; decide
    · rw [e, w1]; decide
