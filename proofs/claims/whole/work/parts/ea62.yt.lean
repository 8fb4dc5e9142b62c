def tmO (w : Nat → Nat) (gr : cf_O) : Nat → Nat
  | 0 => 0
  | k + 1 => max (tmO w gr k) (w (otN gr k) / 2 ^ 44)
def arS (li : cf_O) (w : Nat → Nat) (L : List Nat) : Nat := (L.map (fun x => (li.2.1 3 (celW (w x))).toInt.toNat)).sum
def flN (p : Nat → Bool) (n : Nat) : List Nat := (List.range n).filter p
theorem flN_s {p : Nat → Bool} {n : Nat} : flN p (n + 1) = flN p n ++ (if p n = true then [n] else []) := by
  unfold flN
  rw [List.range_succ, List.filter_append]
  congr 1
  cases h : p n with
  | true => rw [if_pos rfl, List.filter_cons_of_pos h]; rfl
  | false => rw [if_neg (by decide), List.filter_cons_of_neg (by rw [h]; decide)]; rfl
theorem flN_l {p : Nat → Bool} : ∀ n : Nat, (flN p n).length ≤ n := fun n => by
  unfold flN
  have := List.length_filter_le p (List.range n)
  rw [List.length_range] at this; exact this
theorem flN_m {p : Nat → Bool} {n x : Nat} : x ∈ flN p n ↔ x < n ∧ p x = true := by
  unfold flN
  rw [List.mem_filter, List.mem_range]
theorem flN_e {p q : Nat → Bool} {n : Nat} : (∀ x : Nat, x < n → p x = q x) → flN p n = flN q n := by
  induction n with
  | zero => exact fun _ => rfl
  | succ n ih =>
    intro h
    rw [flN_s, flN_s, ih (fun x hx => h x (by omega)), h n (by omega)]
theorem flN_x {p : Nat → Bool} {a : Nat} : ∀ d : Nat, (∀ x : Nat, a ≤ x → p x = false) → flN p (a + d) = flN p a := by
  intro d
  induction d with
  | zero => exact fun _ => rfl
  | succ d ih =>
    intro h
    show flN p ((a + d) + 1) = _
    rw [flN_s, ih h, h (a + d) (by omega), if_neg (by decide), List.append_nil]
def ipC (o : cf_O) (x : Nat) : Bool := decide (2 ≤ x) && decide (o.2.1 6 x = 1) && decide (¬ nv (o.2.2 4 x) = 0)
def LiC (li O o : cf_O) (L : List Nat) : Prop := (o.1 0).toInt = (L.length : Int) ∧ (∀ i x : Nat, L[i]? = some x → (o.2.1 3 i).toInt = (x : Int)) ∧ (o.1 1).toInt = (arS li (wvM O) L : Int)
theorem ti_go {b n c : Nat} {gr li O : cf_O} (X : WpX b n c gr li O) (B : ∀ y : Nat, O.2.1 6 y = 0 ∨ O.2.1 6 y = 1) (wn : ∀ x : Nat, x < 2 * (b + n) → O.2.1 6 x = 1 → ¬ wvM O x = NOM) (hN : b + n ≤ 209) : ∀ (fu x : Nat) (v3 : Int32) (o r : cf_O), v3.toInt = (x : Int) → 2 ≤ x → x ≤ 2 * (b + n) → Fr (fr_M [0, 1] [3] []) O o → LiC li O o (flN (ipC O) x) → arS li (wvM O) (flN (ipC O) x) ≤ 1000 * x → gMp_takeInstances fu 0 v3 o gr li = some r → Fr (fr_M [0, 1] [3] []) O r ∧ LiC li O r (flN (ipC O) (2 * (b + n))) ∧ arS li (wvM O) (flN (ipC O) (2 * (b + n))) ≤ 418000
  | 0, x, v3, o, r, e3, x2, xN, fo, L, A, h => by cases h
  | fu + 1, x, v3, o, r, e3, x2, xN, fo, L, A, h => by
    have X0 := X
    obtain ⟨G, hF, px⟩ := X
    have G0 := G.1
    have h : fMp_takeInstances_12 (gMp_takeInstances fu) v3 o gr li = some r := h
    unfold fMp_takeInstances_12 at h
    obtain ⟨q, hq, h⟩ := bd h
    have eq := size_sp G hq
    have e2 := mul2 eq (show b + n < 100000 by omega)
    rw [opk] at h
    rcases ifc h with ⟨a, h⟩ | ⟨a, h⟩
    · have a := c_le a
      have ex : x = 2 * (b + n) := by omega
      subst ex
      rw [← Option.some.inj h]; exact ⟨fo, L, by omega⟩
    · have a := c_nle a
      have p3 := pW (v := v3) (by omega) (by omega)
      have h := (ifn h).2
      rw [opk, tW e3, fo.2.1 6 rfl] at h
      have skip : ipC O x = false → fMp_takeInstances_85 (gMp_takeInstances fu) v3 o gr li = some r → Fr (fr_M [0, 1] [3] []) O r ∧ LiC li O r (flN (ipC O) (2 * (b + n))) ∧ arS li (wvM O) (flN (ipC O) (2 * (b + n))) ≤ 418000 := fun z y => by
        unfold fMp_takeInstances_85 at y
        rw [opk] at y
        have es : flN (ipC O) (x + 1) = flN (ipC O) x := by rw [flN_s, z, if_neg (by decide), List.append_nil]
        exact ti_go X0 B wn hN fu (x + 1) (v3 + 1) o r (by omega) (by omega) (by omega) fo (by rw [es]; exact L) (by rw [es]; omega) y
      rcases ifc h with ⟨d, h⟩ | ⟨d, h⟩
      · refine skip ?_ h
        unfold ipC
        rw [d, decide_eq_false (show ¬ (0 : Int32) = 1 by decide), Bool.and_false, Bool.false_and]
      · have w1 : O.2.1 6 x = 1 := (B x).resolve_left d
        have h := (ifn h).2
        rw [opk, opk, fo.2.2 4 rfl] at h
        rcases ifc h with ⟨z, h⟩ | ⟨z, h⟩
        · have z := (lg_cmp_eq _ _).mp z
          refine skip ?_ h
          unfold ipC
          rw [decide_eq_false (show ¬ ¬ nv (O.2.2 4 x) = 0 from fun y => y (by rw [z]; rfl)), Bool.and_false]
        · have z : ¬ nv (O.2.2 4 x) = 0 := fun y => z ((lg_cmp_eq _ _).mpr (nv_inj y))
          have ip : ipC O x = true := by
            unfold ipC
            rw [decide_eq_true x2, decide_eq_true w1, decide_eq_true z]; rfl
          have es : flN (ipC O) (x + 1) = flN (ipC O) x ++ [x] := by rw [flN_s, ip, if_pos rfl]
          obtain ⟨L1, L2, L3⟩ := L
          have ll := flN_l (p := ipC O) x
          have h := (ifn h).2
          rw [opk] at h
          have h := (ifn h).2
          rw [tW L1] at h
          have k4 : (xp o 3 (flN (ipC O) x).length v3).2.2 4 x = O.2.2 4 x := by show o.2.2 4 x = _; rw [fo.2.2 4 rfl]
          rw [opk, k4] at h
          obtain ⟨u, hu, h⟩ := bd h
          have eu := cellOf_sp hu
          have eu : u.toInt = (celW (wvM O x) : Int) := eu
          obtain ⟨⟨p1, _⟩, _⟩ := px x x2 (by omega) z (wn x (by omega) w1)
          have F := (hF.2 _ p1).1
          rw [(faL_0 (li := li) (i := celW (wvM O x))).1] at F
          have h := (ifn h).2
          rw [opk, tW eu, opk, opk, opk, opk] at h
          unfold fMp_takeInstances_85 at h
          rw [opk] at h
          have k1 : (xp o 3 (flN (ipC O) x).length v3).1 1 = o.1 1 := rfl
          rw [k1] at h
          have sa : arS li (wvM O) (flN (ipC O) x ++ [x]) = arS li (wvM O) (flN (ipC O) x) + (li.2.1 3 (celW (wvM O x))).toInt.toNat := by
            unfold arS
            rw [List.map_append, List.sum_append, List.map_cons, List.map_nil, List.sum_cons, List.sum_nil, Nat.add_zero]
          have ea : (o.1 1 + li.2.1 3 (celW (wvM O x))).toInt = ((arS li (wvM O) (flN (ipC O) x) + (li.2.1 3 (celW (wvM O x))).toInt.toNat : Nat) : Int) := by
            rw [i_add (by omega) (by omega)]; omega
          generalize o.1 1 + li.2.1 3 (celW (wvM O x)) = na at h ea
          have k0 : (fp (xp o 3 (flN (ipC O) x).length v3) 1 na).1 0 = o.1 0 := rfl
          rw [k0] at h
          refine ti_go X0 B wn hN fu (x + 1) (v3 + 1) (fp (fp (xp o 3 (flN (ipC O) x).length v3) 1 na) 0 (o.1 0 + 1)) r (by omega) (by omega) (by omega) (fr_fp (fr_fp (fr_xp fo rfl) rfl) rfl) ?_ (by rw [es, sa]; omega) h
          rw [es]
          refine ⟨?_, fun i y hy => ?_, ?_⟩
          · show (o.1 0 + 1).toInt = _
            rw [pW (by omega) (by omega), List.length_append]
            show _ = (((flN (ipC O) x).length + 1 : Nat) : Int)
            omega
          · show (upd (o.2.1 3) (flN (ipC O) x).length v3 i).toInt = _
            by_cases ei : i = (flN (ipC O) x).length
            · rw [ei, List.getElem?_append_right (Nat.le_refl _), Nat.sub_self] at hy
              have hy := Option.some.inj (show some x = some y from hy)
              rw [ei, up_s, e3, hy]
            · rw [up_o ei]
              refine L2 i y ?_
              by_cases lt : i < (flN (ipC O) x).length
              · rw [List.getElem?_append_left lt] at hy; exact hy
              · rw [List.getElem?_eq_none (by rw [List.length_append]; show (flN (ipC O) x).length + 1 ≤ i; omega)] at hy; cases hy
          · rw [sa]
            show na.toInt = _
            exact ea
