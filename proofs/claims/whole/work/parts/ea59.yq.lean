def celW (v : Nat) : Nat := v / 2 ^ 30 % 16
def pinW (v k : Nat) : Nat := v / 2 ^ (20 - 10 * k) % 1024
def PiQ (fa : Nat → Int32) (w : Nat → Nat) (x y : Nat) : Prop := ∃ k : Nat, (k : Int) < (fa (4 * celW (w x) + 2)).toInt ∧ k < 3 ∧ y = pinW (w x) k
theorem pin_0 {v : Nat} : pinW v 0 = v / 2 ^ 20 % 1024 := rfl
theorem pin_1 {v : Nat} : pinW v 1 = v / 2 ^ 10 % 1024 := rfl
theorem pin_2 {v : Nat} : pinW v 2 = v % 1024 := by show v / 2 ^ 0 % 1024 = _; rw [Nat.pow_zero, Nat.div_one]
theorem fld {T A c p q r : Nat} (hA : A < 1024) (hc : c < 16) (hp : p < 1024) (hq : q < 1024) (hr : r < 1024) : celW (T * 2 ^ 44 + A * 2 ^ 34 + c * 2 ^ 30 + (p * 2 ^ 20 + q * 2 ^ 10 + r)) = c ∧ pinW (T * 2 ^ 44 + A * 2 ^ 34 + c * 2 ^ 30 + (p * 2 ^ 20 + q * 2 ^ 10 + r)) 0 = p ∧ pinW (T * 2 ^ 44 + A * 2 ^ 34 + c * 2 ^ 30 + (p * 2 ^ 20 + q * 2 ^ 10 + r)) 1 = q ∧ pinW (T * 2 ^ 44 + A * 2 ^ 34 + c * 2 ^ 30 + (p * 2 ^ 20 + q * 2 ^ 10 + r)) 2 = r := by
  rw [pin_0, pin_1, pin_2]
  unfold celW
  omega
theorem pn_k {x : Nat → Nat} {s k : Nat} (hk : k < s) (hs : s ≤ 3) : (if k = 0 then (if 0 < s then x 0 else 0) else if k = 1 then (if 1 < s then x 1 else 0) else (if 2 < s then x 2 else 0)) = x k := by
  rcases (show k = 0 ∨ k = 1 ∨ k = 2 by omega) with e | e | e
  · subst e; rw [if_pos rfl, if_pos hk]
  · subst e; rw [if_neg (by decide), if_pos rfl, if_pos hk]
  · subst e; rw [if_neg (by decide), if_neg (by decide), if_pos hk]
theorem cv_f {fa : Nat → Int32} {cl a s c : Nat} {x : Nat → Nat} (hF : FcQ c fa) (hcl : cl < c) (hs : s ≤ 3) (hx : ∀ k : Nat, k < s → x k < 1024) : celW (cvV fa cl a s x) = cl ∧ ∀ k : Nat, k < s → pinW (cvV fa cl a s x) k = x k := by
  have F := hF.2 cl hcl
  have c12 := hF.1
  have q0 : (if 0 < s then x 0 else 0) < 1024 := by split; exact hx 0 (by assumption); decide
  have q1 : (if 1 < s then x 1 else 0) < 1024 := by split; exact hx 1 (by assumption); decide
  have q2 : (if 2 < s then x 2 else 0) < 1024 := by split; exact hx 2 (by assumption); decide
  have f := fld (T := a + (fa (4 * cl + 1)).toInt.toNat) (A := (fa (4 * cl)).toInt.toNat) (c := cl) (by omega) (by omega) q0 q1 q2
  unfold cvV pnS
  refine ⟨f.1, fun k hk => ?_⟩
  rcases (show k = 0 ∨ k = 1 ∨ k = 2 by omega) with e | e | e
  · subst e; rw [f.2.1, if_pos hk]
  · subst e; rw [f.2.2.1, if_pos hk]
  · subst e; rw [f.2.2.2, if_pos hk]
theorem mkW_nn {fa : Nat → Int32} {c v l : Nat} {op : Option Nat} (hF : FcQ c fa) (hl : l < 418) (ho : ∀ t : Nat, op = some t → t ≤ 400000) (hv : ¬ v = NOM) : ¬ mkW fa v op c l = NOM := by
  cases op with
  | none => rw [mkW_n]; exact hv
  | some t =>
    cases e : ivN fa c with
    | none => rw [mkW_0 e]; exact hv
    | some j =>
      rw [mkW_1 e]
      have jl := (ivN_l e).1
      have F := hF.2 j jl
      have c12 := hF.1
      have tt := ho t rfl
      have o := (opN_2 (l := l)).2.2.1
      have et := tnV_e (fa := fa) (j := j) (t := t) (l := l)
      generalize tnV fa j t l = u at et
      by_cases y : u / 2 ^ 34 < v / 2 ^ 34
      · rw [pick_l y]; unfold NOM; omega
      · rw [pick_g y]; exact hv
theorem sw_pin {b n c x y : Nat} {gr MP : cf_O} {fa : Nat → Int32} {Cs : Nat → List Int → Prop} (hF : FcQ c fa) (hb : 1 ≤ b) (hN : b + n ≤ 209) (S : SwQ b n c (b + n) gr fa Cs (wvM MP)) (T : TmbQ MP (b + n)) (hC : CsQ Cs b (b + n)) (x2 : 2 ≤ x) (xN : x < 2 * (b + n)) (hg : gvB b x = false) (hx : ¬ wvM MP x = NOM) : (celW (wvM MP x) < c ∧ 1 ≤ (fa (4 * celW (wvM MP x) + 2)).toInt ∧ (fa (4 * celW (wvM MP x) + 2)).toInt ≤ 3 ∧ ¬ wvM MP x = 0) ∧ (PiQ fa (wvM MP) x y → 2 ≤ y ∧ y / 2 ≤ x / 2 ∧ ¬ wvM MP y = NOM) := by
  have c12 := hF.1
  have turn : ∀ (v t j : Nat), t ≤ 400000 → ivN fa c = some j → wvM MP x = tnV fa j t x → ¬ wvM MP (opN x) = NOM → (celW (wvM MP x) < c ∧ 1 ≤ (fa (4 * celW (wvM MP x) + 2)).toInt ∧ (fa (4 * celW (wvM MP x) + 2)).toInt ≤ 3 ∧ ¬ wvM MP x = 0) ∧ (PiQ fa (wvM MP) x y → 2 ≤ y ∧ y / 2 ≤ x / 2 ∧ ¬ wvM MP y = NOM) := fun v t j ht ej ew no => by
    have jl := ivN_l ej
    have F := hF.2 j jl.1
    have o := opN_2 (l := x)
    have f := cv_f (a := t) (s := 1) (x := fun _ => opN x) hF jl.1 (by decide) (fun _ _ => by omega)
    have e2 : (fa (4 * j + 2)).toInt = 1 := by
      have z := jl.2
      unfold isV at z
      exact of_decide_eq_true (Bool.and_eq_true _ _ ▸ z : _ ∧ _).1
    have te := tnV_e (fa := fa) (j := j) (t := t) (l := x)
    have ew2 : wvM MP x = cvV fa j t 1 (fun _ => opN x) := ew
    refine ⟨?_, ?_⟩
    · rw [ew2, f.1]
      refine ⟨jl.1, by omega, by omega, ?_⟩
      rw [← ew2, ew, te]; omega
    · rintro ⟨k, k1, k2, k3⟩
      rw [ew2, f.1, e2] at k1
      have k0 : k = 0 := by omega
      subst k0
      rw [ew2, f.2 0 (by decide)] at k3
      have k3 : y = opN x := k3
      subst k3
      exact ⟨o.2.2.2.1 x2, by omega, no⟩
  by_cases kb : x / 2 < b
  · have h1 := S.1 (x / 2) (by omega) kb (by omega)
    have ex : x = 2 * (x / 2) + 1 := by
      by_cases z : x % 2 = 0
      · have : gvB b x = true := by unfold gvB; exact decide_eq_true (by omega)
        rw [this] at hg; cases hg
      · omega
    have h2 : wvM MP x = mkW fa NOM (some 0) c x := by rw [ex]; rw [h1.2]
    cases ej : ivN fa c with
    | none => rw [mkW_0 ej] at h2; exact absurd h2 hx
    | some j =>
      rw [mkW_1 ej] at h2
      have jl9 := (ivN_l ej).1
      have F := hF.2 j jl9
      have te := tnV_e (fa := fa) (j := j) (t := 0) (l := x)
      have o := opN_2 (l := x)
      have ox : opN x = 2 * (x / 2) := by unfold opN; rw [if_neg (by omega)]; omega
      have lt : tnV fa j 0 x / 2 ^ 34 < NOM / 2 ^ 34 := by
        rw [te]; unfold NOM; omega
      rw [pick_l lt] at h2
      refine turn NOM 0 j (by decide) ej h2 ?_
      rw [ox, h1.1]; decide
  · obtain ⟨v, hv⟩ := S.2 (x / 2) (by omega) (by omega)
    obtain ⟨N1, w1⟩ := hv x rfl
    obtain ⟨N2, w2⟩ := hv (opN x) (opN_2 (l := x)).1
    have oo := (opN_2 (l := x)).2.1
    have oo3 := (opN_2 (l := x)).2.2.1
    rw [oo] at w2
    have Tg : TmbQ MP (x / 2) := fun z z2 zx => T z z2 (by omega)
    have tb : ∀ l u : Nat, l / 2 = x / 2 → MnQ u (fun x' => ∃ C : List Int, Cs (x / 2) C ∧ ∃ cl : Nat, cl < c ∧ CwS b n gr fa (mtW (wvM MP)) C cl l x') → ¬ u = NOM → u / 2 ^ 44 ≤ 198 * (x / 2) - 99 := fun l u _ N nu => by
      obtain ⟨C, c1, cl, c2, c3⟩ := N.1.resolve_left nu
      have cs := hC _ C (by omega) (by omega) c1
      exact (CwS_t Tg (by omega) (by omega) hF c2 cs.1 cs.2 c3).1
    have plain : wvM MP x = v x → (celW (wvM MP x) < c ∧ 1 ≤ (fa (4 * celW (wvM MP x) + 2)).toInt ∧ (fa (4 * celW (wvM MP x) + 2)).toInt ≤ 3 ∧ ¬ wvM MP x = 0) ∧ (PiQ fa (wvM MP) x y → 2 ≤ y ∧ y / 2 ≤ x / 2 ∧ ¬ wvM MP y = NOM) := fun ev => by
      have nv' : ¬ v x = NOM := by rw [← ev]; exact hx
      obtain ⟨C, c1, cl, c2, c3⟩ := N1.1.resolve_left nv'
      have cs := hC _ C (by omega) (by omega) c1
      have z0 := (CwS_t Tg (by omega) (by omega) hF c2 cs.1 cs.2 c3).2.2
      obtain ⟨W, _, d2, p, d3, d4, a, d5, _, d7⟩ := c3
      have pb := (wy_s cs.1.1 cs.1.2).2.2.2 p d3 d4
      have f := cv_f (a := a) (x := ptL C p) hF c2 cs.1.2 (fun k hk => by have := (ptL_b cs.2 rfl (pb k hk)).2.1; omega)
      refine ⟨?_, ?_⟩
      · rw [ev]
        refine ⟨by rw [d7, f.1]; exact c2, ?_, ?_, z0⟩
        · rw [d7, f.1, d2]; omega
        · rw [d7, f.1, d2]; omega
      · rintro ⟨k, k1, k2, k3⟩
        rw [ev, d7, f.1, d2] at k1
        rw [ev, d7, f.2 k (by omega)] at k3
        have q := ptL_b cs.2 rfl (pb k (by omega))
        refine ⟨by omega, by omega, fun z => ?_⟩
        rw [k3] at z
        have := tmP_n (mt := mtW (wvM MP)) (x := ptL C p) (k := k) (by unfold mtW; rw [if_pos z]) C.length (by omega)
        rw [this] at d5; cases d5
    by_cases zo : v (opN x) = NOM
    · have eo : opO false (v (opN x)) = none := by unfold opO; rw [if_neg (by decide), if_pos zo]
      rw [eo, mkW_n] at w1
      exact plain w1
    · have eo : opO false (v (opN x)) = some (v (opN x) / 2 ^ 44) := by unfold opO; rw [if_neg (by decide), if_neg zo]
      rw [eo] at w1
      cases ej : ivN fa c with
      | none => rw [mkW_0 ej] at w1; exact plain w1
      | some j =>
        rw [mkW_1 ej] at w1
        by_cases y34 : tnV fa j (v (opN x) / 2 ^ 44) x / 2 ^ 34 < v x / 2 ^ 34
        · rw [pick_l y34] at w1
          have t1 := tb _ _ (opN_2 (l := x)).1 N2 zo
          refine turn (v x) _ j (by omega) ej w1 ?_
          rw [w2]
          refine mkW_nn hF (by omega) (fun t ht => ?_) zo
          unfold opO at ht
          rw [if_neg (by decide)] at ht
          by_cases zx : v x = NOM
          · rw [if_pos zx] at ht; cases ht
          · rw [if_neg zx] at ht
            have := Option.some.inj ht
            have := tb x _ rfl N1 zx
            omega
        · rw [pick_g y34] at w1
          exact plain w1
