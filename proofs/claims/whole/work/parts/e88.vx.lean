theorem RowE_c {o : cf_O} {s : Nat} {l : List Nat} {R : List (List Nat)} (h1 : nv (o.2.2 4 s) = enc l) (h2 : Mkp (o.2.2 5 s) l) (h : RowE o (s + 1) R) : RowE o s (l :: R) := fun k x hk => by
  cases k with
  | zero =>
    have e : l = x := Option.some.inj hk
    rw [← e, Nat.add_zero]; exact ⟨h1, h2⟩
  | succ k =>
    have z := h k x hk
    rw [show s + 1 + k = s + (k + 1) by omega] at z
    exact z
def acR (m : Nat) (acc : List (List Nat)) (R : Nat → List (List Nat)) : Nat → List (List Nat) := fun k => if k = m then acc else R k
theorem acR_s {m : Nat} {acc : List (List Nat)} {R : Nat → List (List Nat)} : acR m acc R m = acc := if_pos rfl
theorem acR_o {m k : Nat} {acc : List (List Nat)} {R : Nat → List (List Nat)} (h : ¬ k = m) : acR m acc R k = R k := if_neg h
theorem cf_step {b K m u : Nat} {gr o o' : cf_O} {R : Nat → List (List Nat)} {rows rows2 : List (List (List Int))} {acc : List (List Nat)} (hb : 1 ≤ b) (hm : 1 ≤ m) (h : CFa b K gr m R rows o) (eu : (o.1 3).toInt = (u : Int)) (s1 : ∀ k : Nat, k < m → o'.2.1 2 k = o.2.1 2 k) (s2 : (o'.2.1 2 m).toInt = (u : Int)) (s3 : (o'.2.1 2 (m + 1)).toInt = (u : Int) + 1 + (acc.length : Int)) (s4 : (o'.1 3).toInt = (u : Int) + 1 + (acc.length : Int)) (s5 : (o'.1 3).toInt ≤ (o'.1 4).toInt ∧ o'.1 4 = o'.1 5) (s6 : ∀ i : Nat, i < u → o'.2.2 4 i = o.2.2 4 i ∧ o'.2.2 5 i = o.2.2 5 i) (s7 : RowE o' u ([m] :: acc)) (s8 : ∀ l ∈ acc, Fall m l ∧ 2 ≤ l.length ∧ l.length ≤ 5) (s9 : SzS acc) (s10 : acc.length ≤ 300) (c : cutsN b (shN b (gr.2.1 4)) (shN b (gr.2.1 5)) K (m + 1 - b) = some rows2) (cl : rows2.length = b + (m + 1 - b)) (ce : ∀ k : Nat, k < m → rows2.getD k [] = rows.getD k []) (cm : ∀ C : List Int, C ∈ acc.map upL ↔ C ∈ rows2.getD m []) (d1 : ∀ k : Nat, k < m → o'.2.1 1 k = o.2.1 1 k) (d2 : 0 ≤ (o'.2.1 1 m).toInt ∧ (o'.2.1 1 m).toInt ≤ (m : Int)) (d3 : m < b → (o'.2.1 1 m).toInt = 0) (d4 : b ≤ m → (∃ C ∈ rows2.getD m [], (o'.2.1 1 m).toInt = dpC (o'.2.1 1) C) ∧ ∀ C ∈ rows2.getD m [], (o'.2.1 1 m).toInt ≤ dpC (o'.2.1 1) C) : CFa b K gr (m + 1) (acR m acc R) rows2 o' := by
  have hn := CFa_n hb h
  obtain ⟨h1, h2, h3, h4, h5, h6, h7, h8, h9, h10⟩ := h
  refine ⟨fun k k1 k2 => ?_, fun _ => by omega, by omega, by omega, s5, c, cl, fun k k1 k2 C => ?_, fun k k1 k2 => ?_, ?_⟩
  · by_cases e : k = m
    · subst e
      unfold CFr
      rw [acR_s, s2, s3]
      refine ⟨s7, by omega, by omega, by omega, s8, s9, s10⟩
    · have q := h1 k k1 (by omega)
      refine CFr_f q (w := u) (by have := q.2.2.2.1; omega) (by rw [s1 k (by omega)]) ?_ (by omega) (acR_o e) s6
      by_cases e2 : k + 1 = m
      · rw [e2, s2, h2 (by omega)]; omega
      · rw [s1 (k + 1) (by omega)]
  · by_cases e : k = m
    · subst e
      rw [acR_s]; exact cm C
    · rw [acR_o e, ce k (by omega)]; exact h8 k k1 (by omega) C
  · by_cases e : k = m
    · rw [e]; exact d2
    · rw [d1 k (by omega)]; exact h9 k k1 (by omega)
  · have z := DSq_e (rows2 := rows2) (d2 := o'.2.1 1) h10 ce d1 hn
    refine ⟨fun k k0 k1 k2 => ?_, fun k k1 k2 => ?_⟩
    · by_cases e : k = m
      · rw [e]; exact d3 (by omega)
      · exact z.1 k k0 k1 (by omega)
    · by_cases e : k = m
      · rw [e]; exact d4 (by omega)
      · exact z.2 k k1 (by omega)
def FCq (b n K : Nat) (v2 : Int32) (gr : cf_O) (r : Int32 × cf_O) : Prop := (r.1 = 0 ∧ cutsN b (shN b (gr.2.1 4)) (shN b (gr.2.1 5)) K n = none ∧ r.2.1 0 = 0) ∨ (¬ r.1 = 0 ∧ r.2.1 0 = v2 ∧ ∃ (R : Nat → List (List Nat)) (rows : List (List (List Int))), CFa b K gr (b + n) R rows r.2)
theorem rep_d {b k : Nat} : (List.replicate b ([] : List (List Int))).getD k [] = [] := by
  rw [List.getD_eq_getElem?_getD, List.getElem?_replicate]
  split <;> rfl
theorem sz_1 {x : Nat} {A : List (List Nat)} (h : SzS A) (h1 : ∀ l ∈ A, 1 ≤ l.length) : SzS ([x] :: A) := List.pairwise_cons.mpr ⟨h1, h⟩
theorem al_m {rows : List (List (List Int))} {R : List (List Nat)} {x : Nat} (hx : 1 ≤ x) (h : ∀ C : List Int, C ∈ R.map upL ↔ C ∈ rows.getD x []) (C : List Int) : C ∈ ([x] :: R).map upL ↔ C ∈ alR rows x := by
  unfold alR aloneL
  rw [if_neg (by omega), List.map_cons, List.mem_cons, List.mem_append, List.mem_singleton, h C]
  show C = [(x : Int)] ∨ _ ↔ _
  exact ⟨fun q => q.elim Or.inr Or.inl, fun q => q.elim Or.inr Or.inl⟩
theorem fn_go {b n K : Nat} {gr : cf_O} {v2 : Int32} (G : GW b n gr) (e2 : v2.toInt = (K : Int)) (hK : 2 ≤ K) (hK5 : K ≤ 5) : ∀ (f m : Nat) (v3 : Int32) (R : Nat → List (List Nat)) (rows : List (List (List Int))) (o : cf_O) (r : Int32 × cf_O), v3.toInt = (m : Int) → 1 ≤ m → m ≤ b + n → o.1 0 = 0 → CFa b K gr m R rows o → gCu_find f 0 v2 v3 o gr = some r → FCq b n K v2 gr r
  | 0, m, v3, R, rows, o, r, e3, m1, m2, e0, C, h => by cases h
  | f + 1, m, v3, R, rows, o, r, e3, m1, m2, e0, C, h => by
    have h : fCu_find_22 (gCu_find f) v2 v3 o gr = some r := h
    have G0 := G.1
    unfold fCu_find_22 at h
    obtain ⟨q, hq, h⟩ := bd h
    have eq := size_sp G hq
    unfold fCu_find_27 at h
    rcases ifc h with ⟨a, h⟩ | ⟨a, h⟩
    · have a := Int32.le_iff_toInt_le.mp a
      have em : m = b + n := by omega
      subst em
      rw [opk] at h
      have er := (Option.some.inj h).symm
      subst er
      refine Or.inr ⟨by show ¬ (1 : Int32) = 0; decide, rfl, R, rows, C⟩
    · have a : ¬ q.toInt ≤ v3.toInt := fun z => a (Int32.le_iff_toInt_le.mpr z)
      have i3 : v3.toNatClampNeg = m := tW e3
      have C0 := C
      obtain ⟨h1, h2, h3, h4, h5, h6, h7, h8, h9, h10⟩ := C
      obtain ⟨u, eu⟩ : ∃ u : Nat, (o.1 3).toInt = (u : Int) := ⟨(o.1 3).toInt.toNat, by omega⟩
      rcases ifc h with ⟨_, h⟩ | ⟨_, h⟩
      · cases h
      rw [opk, i3] at h
      rcases ifc h with ⟨_, h⟩ | ⟨_, h⟩
      · cases h
      rw [opk, opk, opk, opk] at h
      obtain ⟨t, ht, h⟩ := bd h
      obtain ⟨t1, t2, t3, t4, t5, t6, t7⟩ := cadd_sp (o := xp (xp o 2 m (o.1 3)) 1 m 0) (u := u) eu (by omega) h5.1 h5.2 ht
      have t5 : ∀ i : Nat, i < u → t.2.2 4 i = o.2.2 4 i ∧ t.2.2 5 i = o.2.2 5 i := t5
      have t7 : t.1 0 = 0 := t7.trans e0
      have ts : t.2.1 2 = upd (o.2.1 2) m (o.1 3) := by rw [t6]; rfl
      have td : t.2.1 1 = upd (o.2.1 1) m 0 := by rw [t6]; rfl
      have n3 : nv (v3.toInt64) = enc [m] := by rw [nv_32 (by omega), e3]; show (m : Int).toNat = m + 256 * 0; omega
      have r3 : nv (t.2.2 4 u) = enc [m] := by rw [t3]; exact n3
      have r4 : Mkp (t.2.2 5 u) [m] := by rw [t4]; exact Mkp_1 e3 (by omega)
      have p3 := pW (v := v3) (by omega) (by omega)
      have i31 : (v3 + 1).toNatClampNeg = m + 1 := tW (by omega)
      unfold fCu_find_59 at h
      obtain ⟨y, hy, h⟩ := bd h
      have yq := isGate_sp G hy
      unfold fCu_find_64 at h
      -- the next node
      have nx : ∀ (q2 : cf_O) (acc : List (List Nat)) (rows2 : List (List (List Int))), q2.1 0 = 0 → q2.2.1 2 = t.2.1 2 → (q2.1 3).toInt = (u : Int) + 1 + (acc.length : Int) → ((q2.1 3).toInt ≤ (q2.1 4).toInt ∧ q2.1 4 = q2.1 5) → (∀ i : Nat, i < u + 1 → q2.2.2 4 i = t.2.2 4 i ∧ q2.2.2 5 i = t.2.2 5 i) → RowE q2 (u + 1) acc → (∀ l ∈ acc, Fall m l ∧ 2 ≤ l.length ∧ l.length ≤ 5) → SzS acc → acc.length ≤ 300 → cutsN b (shN b (gr.2.1 4)) (shN b (gr.2.1 5)) K (m + 1 - b) = some rows2 → rows2.length = b + (m + 1 - b) → (∀ k : Nat, k < m → rows2.getD k [] = rows.getD k []) → (∀ C : List Int, C ∈ acc.map upL ↔ C ∈ rows2.getD m []) → (∀ k : Nat, k < m → q2.2.1 1 k = o.2.1 1 k) → (0 ≤ (q2.2.1 1 m).toInt ∧ (q2.2.1 1 m).toInt ≤ (m : Int)) → (m < b → (q2.2.1 1 m).toInt = 0) → (b ≤ m → (∃ C ∈ rows2.getD m [], (q2.2.1 1 m).toInt = dpC (q2.2.1 1) C) ∧ ∀ C ∈ rows2.getD m [], (q2.2.1 1 m).toInt ≤ dpC (q2.2.1 1) C) → fCu_find_79 (gCu_find f) v2 v3 q2 gr = some r → FCq b n K v2 gr r := fun q2 acc rows2 z0 z1 z2 z3 z4 z5 z6 z7 z8 z9 z10 z11 z12 z13 z14 z15 z16 hh => by
        unfold fCu_find_79 at hh
        rw [opk] at hh
        rcases ifc hh with ⟨_, hh⟩ | ⟨_, hh⟩
        · cases hh
        rw [opk, opk, i31] at hh
        have w0 := z4 u (by omega)
        have CC := cf_step (o' := xp q2 2 (m + 1) (q2.1 3)) (acc := acc) (rows2 := rows2) G0.2.2.2.1 m1 C0 eu (fun k hk => by
          show upd (q2.2.1 2) (m + 1) (q2.1 3) k = _
          rw [up_o (by omega), z1, ts, up_o (by omega)]) (by
          show (upd (q2.2.1 2) (m + 1) (q2.1 3) m).toInt = _
          rw [up_o (by omega), z1, ts, up_s]; exact eu) (by
          show (upd (q2.2.1 2) (m + 1) (q2.1 3) (m + 1)).toInt = _
          rw [up_s]; exact z2) z2 z3 (fun i hi => by
          have w1 := z4 i (by omega)
          have w2 := t5 i hi
          exact ⟨w1.1.trans w2.1, w1.2.trans w2.2⟩) (RowE_c (by show nv (q2.2.2 4 u) = _; rw [w0.1]; exact r3) (by show Mkp (q2.2.2 5 u) _; rw [w0.2]; exact r4) z5) z6 z7 z8 z9 z10 z11 z12 z13 z14 z15 z16
        exact fn_go G e2 hK hK5 f (m + 1) (v3 + 1) _ rows2 (xp q2 2 (m + 1) (q2.1 3)) r (by omega) (by omega) (by omega) z0 CC hh
      rcases ifc h with ⟨c, h⟩ | ⟨c, h⟩
      · -- an input
        have mb : m < b := by
          rcases yq with ⟨z, _⟩ | ⟨_, z⟩
          · rw [c] at z; exact absurd z (by decide)
          · omega
        have e00 : m - b = 0 := by omega
        have e01 : m + 1 - b = 0 := by omega
        have er : rows = List.replicate b [] := by
          rw [e00] at h6
          exact (Option.some.inj h6).symm
        refine nx t [] rows t7 rfl (by rw [t1]; show _ = (u : Int) + 1 + ((0 : Nat) : Int); omega) t2 (fun _ _ => ⟨rfl, rfl⟩) (fun k l hk => by cases hk) (fun l hl => absurd hl (List.not_mem_nil)) List.Pairwise.nil (Nat.zero_le _) (by rw [e01, ← e00]; exact h6) (by rw [e01]; rw [e00] at h7; exact h7) (fun _ _ => rfl) (fun C => by rw [er, rep_d]; rfl) (fun k hk => by rw [td, up_o (by omega)]) (by rw [td, up_s]; exact ⟨by decide, by show (0 : Int) ≤ _; omega⟩) (fun _ => by rw [td, up_s]; rfl) (fun z => by omega) h
      · -- a gate
        have mb : b ≤ m := by
          rcases yq with ⟨_, z⟩ | ⟨z, _⟩
          · omega
          · exact absurd z c
        obtain ⟨g, eg⟩ : ∃ g : Nat, m = b + g := ⟨m - b, by omega⟩
        obtain ⟨s, hs, h⟩ := bd h
        have gg := G.2.1 g (by omega)
        rw [← eg] at gg
        obtain ⟨x, ex⟩ : ∃ x : Nat, (gr.2.1 4 m).toInt / 2 = (x : Int) := ⟨((gr.2.1 4 m).toInt / 2).toNat, by omega⟩
        obtain ⟨z, ez⟩ : ∃ z : Nat, (gr.2.1 5 m).toInt / 2 = (z : Int) := ⟨((gr.2.1 5 m).toInt / 2).toNat, by omega⟩
        have Cx := h1 x (by omega) (by omega)
        have Cz := h1 z (by omega) (by omega)
        have tx : ∀ k : Nat, 1 ≤ k → k < m → CFr t R k := fun k k1 k2 => by
          have q := h1 k k1 k2
          refine CFr_f q (w := u) (by have := q.2.2.2.1; omega) (by rw [ts, up_o (by omega)]) ?_ (by omega) rfl t5
          by_cases e9 : k + 1 = m
          · rw [e9, ts, up_s]; exact (h2 (by omega)).symm
          · rw [ts, up_o e9]
        have Tx := tx x (by omega) (by omega)
        have Tz := tx z (by omega) (by omega)
        obtain ⟨a1, a2, a3, a4, a5, a6, a7⟩ := Tx
        obtain ⟨b1, b2, b3, b4, b5, b6, b7⟩ := Tz
        have bx : (t.2.1 2 (x + 1)).toInt ≤ (u : Int) := by
          have := Cx.2.2.2.1
          by_cases e9 : x + 1 = m
          · rw [e9, ts, up_s]; omega
          · rw [ts, up_o e9]; omega
        have bz : (t.2.1 2 (z + 1)).toInt ≤ (u : Int) := by
          have := Cz.2.2.2.1
          by_cases e9 : z + 1 = m
          · rw [e9, ts, up_s]; omega
          · rw [ts, up_o e9]; omega
        have lx : ([x] :: R x).length = (R x).length + 1 := rfl
        have lz : ([z] :: R z).length = (R z).length + 1 := rfl
        have fX : ∀ l ∈ [x] :: R x, Fall m l := fun l hl => by
          rcases List.mem_cons.mp hl with e | e
          · rw [e]; exact ⟨⟨by omega, by omega⟩, trivial⟩
          · exact Fall_le (a5 l e).1 (by omega)
        have fZ : ∀ l ∈ [z] :: R z, Fall m l := fun l hl => by
          rcases List.mem_cons.mp hl with e | e
          · rw [e]; exact ⟨⟨by omega, by omega⟩, trivial⟩
          · exact Fall_le (b5 l e).1 (by omega)
        have l5X : ∀ l ∈ [x] :: R x, l.length ≤ 5 := fun l hl => by
          rcases List.mem_cons.mp hl with e | e
          · rw [e]; show 1 ≤ 5; decide
          · exact (a5 l e).2.2
        have l5Z : ∀ l ∈ [z] :: R z, l.length ≤ 5 := fun l hl => by
          rcases List.mem_cons.mp hl with e | e
          · rw [e]; show 1 ≤ 5; decide
          · exact (b5 l e).2.2
        have zX : SzS ([x] :: R x) := sz_1 a6 (fun l hl => by have := (a5 l hl).2.1; omega)
        have zZ : SzS ([z] :: R z) := sz_1 b6 (fun l hl => by have := (b5 l hl).2.1; omega)
        have JJ : JS m x z (t.2.1 2 x).toInt.toNat (t.2.1 2 z).toInt.toNat (u + 1) ([x] :: R x) ([z] :: R z) [] t := ⟨a1, b1, fun k l hk => (by cases hk), by rw [t1]; rfl, t2, Nat.zero_le _, fun l hl => absurd hl (List.not_mem_nil), by omega, by rw [lx]; omega, by omega, by rw [lz]; omega⟩
        unfold fCu_findOf fCu_findOf_0 at hs
        have st : (t.2.1 2 m).toInt + 1 = ((u + 1 : Nat) : Int) := by rw [ts, up_s, eu]; rfl
        have FO := fo_go (g := m) (K := K) (by omega) e3 e2 hK5 ex ez (by omega) (by omega) (by omega) (by omega) (by omega) (by omega) (by rw [lx]; omega) (by rw [lz]; omega) fX fZ zX zZ l5X l5Z cfFU 2 2 [] t s rfl (Nat.le_refl _) (by omega) st JJ hs
        rw [show K + 1 - 2 = K - 1 by omega, show ([] : List (List Nat)).map upL = [] from rfl] at FO
        have mm : ∀ X ∈ ([x] :: R x).map upL, ∀ Y ∈ ([z] :: R z).map upL, 2 ≤ (mergeL X Y).length := fun X hX Y hY => by
          obtain ⟨l, l1, l2⟩ := List.mem_map.mp hX
          obtain ⟨k, k1, k2⟩ := List.mem_map.mp hY
          have ml := mgs_len (up_sd (fX l l1)) (up_sd (fZ k k1))
          rw [up_l, up_l] at ml
          rw [← l2, ← k2]
          rcases List.mem_cons.mp l1 with e | e
          · rcases List.mem_cons.mp k1 with e9 | e9
            · rw [e, e9]
              show 2 ≤ (mergeL [(x : Int)] [(z : Int)]).length
              rw [mg_l (by omega), mg_0]; show 2 ≤ 2; decide
            · have := (b5 k e9).2.1; omega
          · have := (a5 l e).2.1; omega
        have sX : ∀ C ∈ ([x] :: R x).map upL, Sd C := fun C hC => mps (i := 0) fX C hC
        have sZ : ∀ C ∈ ([z] :: R z).map upL, Sd C := fun C hC => mps (i := 0) fZ C hC
        have CS := cls_same (A2 := alR rows x) (D2 := alR rows z) hK (al_m (by omega) (h8 x (by omega) (by omega))) (al_m (by omega) (h8 z (by omega) (by omega))) sX sZ mm
        have eb : m + 1 - b = (m - b) + 1 := by omega
        have cN : cutsN b (shN b (gr.2.1 4)) (shN b (gr.2.1 5)) K (m + 1 - b) = (gateL (alR rows x) (alR rows z) K).map (fun r => rows ++ [r]) := by
          rw [eb, cutsN, h6, Option.bind_some]
          have g1 : ((shN b (gr.2.1 4) (m - b)).toInt / 2).toNat = x := by
            unfold shN; rw [show b + (m - b) = m by omega]; omega
          have g2 : ((shN b (gr.2.1 5) (m - b)).toInt / 2).toNat = z := by
            unfold shN; rw [show b + (m - b) = m by omega]; omega
          rw [g1, g2]
        unfold fCu_find_74 at h
        rcases FO with ⟨w1, w2, w9⟩ | ⟨acc, o2, f2, v5, w1, w2, w3, w4, w5⟩
        · -- too many
          rw [if_pos w2] at h
          have er := (Option.some.inj h).symm
          subst er
          have gn := CS.1.mp w1
          rw [gn] at cN
          have nn := cutsN_none cN (n - (m + 1 - b))
          rw [show m + 1 - b + (n - (m + 1 - b)) = n by omega] at nn
          exact Or.inl ⟨rfl, nn, w9.trans t7⟩
        · have fd := fd_go (by omega) e3 (by omega) w2.2.2.2.2.2.1 w2.2.2.1 w2.2.2.2.2.2.2.1 w2.2.2.2.1 f2 0 209 v5 s (by omega) w5
          rw [List.drop_zero] at fd
          subst fd
          rw [if_neg (show ¬ (1 : Int32) = 0 by decide)] at h
          obtain ⟨rr, er⟩ : ∃ rr, gateL (alR rows x) (alR rows z) K = some rr := by
            cases hgl : gateL (alR rows x) (alR rows z) K with
            | none => rw [CS.1.mpr hgl] at w1; cases w1
            | some rr => exact ⟨rr, rfl⟩
          have me := CS.2 _ _ w1 er
          rw [er] at cN
          rw [loopS_e] at w1
          obtain ⟨L', l1, l2⟩ := fm_sub w1
          rw [List.nil_append] at l1
          have lr : rows.length = m := by omega
          have ce : ∀ k : Nat, k < m → (rows ++ [rr]).getD k [] = rows.getD k [] := fun k hk => rows_1 (by omega)
          have cm : (rows ++ [rr]).getD m [] = rr := by rw [← lr]; exact rows_2
          have lens : ∀ l ∈ acc, 2 ≤ l.length ∧ l.length ≤ 5 := fun l hl => by
            have : upL l ∈ L' := by rw [← l1]; exact List.mem_map.mpr ⟨l, hl, rfl⟩
            obtain ⟨_, _, _, _, _, el⟩ := cnd_m.mp (l2.subset this)
            rw [List.mem_range'_1, up_l] at el
            omega
          have fa := w2.2.2.2.2.2.2.1
          have sz : SzS acc := by
            have q : LnS (acc.map upL) := by
              rw [l1]
              exact List.Pairwise.sublist l2 (cnd_l (List.pairwise_lt_range' ..))
            unfold LnS at q
            rw [List.pairwise_map] at q
            exact List.Pairwise.imp (fun {a b} hab => by rw [up_l, up_l] at hab; exact hab) q
          have ne : ∃ l, l ∈ acc := by
            have kp := ((run_go _ [] [] (by
              rw [List.nil_append]
              intro C hC
              obtain ⟨X, hX, Y, hY, e, _⟩ := cnd_m.mp hC
              rw [e]; exact mg_sd (sX X hX) (sZ Y hY)) (by rw [List.nil_append]; exact cnd_l (List.pairwise_lt_range' ..)) KpI_0 (by decide)).1 _ w1).1
            have hJ : [(x : Int), (z : Int)] ∈ [] ++ cnd (([x] :: R x).map upL) (([z] :: R z).map upL) (List.range' 2 (K - 1)) := by
              rw [List.nil_append]
              refine cnd_m.mpr ⟨[(x : Int)], List.mem_cons_self .., [(z : Int)], List.mem_cons_self .., ?_, ?_⟩
              · rw [mg_l (by omega), mg_0]
              · rw [List.mem_range'_1]; show 2 ≤ 2 ∧ 2 < 2 + (K - 1); omega
            obtain ⟨C, c1, _⟩ := kp.2.2.1 _ hJ
            obtain ⟨l, l3, _⟩ := List.mem_map.mp c1
            exact ⟨l, l3⟩
          have e1d : o2.2.1 1 = upd (o.2.1 1) m 0 := by rw [w3.1, td]
          have dk : ∀ k : Nat, 1 ≤ k → k < m → 0 ≤ (o2.2.1 1 k).toInt ∧ (o2.2.1 1 k).toInt ≤ (k : Int) := fun k k1 k2 => by
            rw [e1d, up_o (by omega)]; exact h9 k k1 k2
          have dl : ∀ l ∈ acc, (dpl (o2.2.1 1) 0 l + 1).toInt = dpC (o2.2.1 1) (upL l) ∧ 1 ≤ dpC (o2.2.1 1) (upL l) ∧ dpC (o2.2.1 1) (upL l) ≤ (m : Int) := fun l hl => dpl_i (fa l hl) dk (by omega) m1
          obtain ⟨y1, y2, y3⟩ := dmF_sp (m := 0) acc 209 (fun l hl => (dl l hl).1)
          obtain ⟨l0, hl0⟩ := ne
          have y4 := y3 l0 hl0
          have y5 := (dl l0 hl0).2.2
          have yv : ∃ l ∈ acc, (dmF (o2.2.1 1) 209 acc).toInt = dpC (o2.2.1 1) (upL l) := by
            rcases y1 with y1 | y1
            · rw [y1] at y4
              have : (209 : Int32).toInt = 209 := rfl
              omega
            · exact y1
          have dde : ∀ l ∈ acc, dpC (o2.2.1 1) (upL l) = dpC (upd (o2.2.1 1) m (dmF (o2.2.1 1) 209 acc)) (upL l) := fun l hl => dpC_e (fun v hv => by
            obtain ⟨a, a8, a9⟩ := up_m.mp hv
            have := Fall_lt (fa l hl) a8
            rw [up_o (by omega)])
          refine nx (xp o2 1 m (dmF (o2.2.1 1) 209 acc)) acc (rows ++ [rr]) (w3.2.1.trans t7) (congrFun w3.1 2) (by show (o2.1 3).toInt = _; rw [w2.2.2.2.1]; omega) w2.2.2.2.2.1 w3.2.2 w2.2.2.1 (fun l hl => ⟨fa l hl, lens l hl⟩) sz w2.2.2.2.2.2.1 cN (by rw [List.length_append]; show rows.length + 1 = _; omega) ce (fun C => by rw [cm]; exact me C) (fun k hk => ?_) ?_ (fun z9 => by omega) (fun _ => ?_) h
          · show upd (o2.2.1 1) m _ k = _
            rw [up_o (by omega), e1d, up_o (by omega)]
          · show 0 ≤ (upd (o2.2.1 1) m (dmF (o2.2.1 1) 209 acc) m).toInt ∧ (upd (o2.2.1 1) m (dmF (o2.2.1 1) 209 acc) m).toInt ≤ _
            rw [up_s]
            obtain ⟨l, y6, y7⟩ := yv
            have := dl l y6
            omega
          · show (∃ C ∈ _, (upd (o2.2.1 1) m (dmF (o2.2.1 1) 209 acc) m).toInt = dpC (upd (o2.2.1 1) m (dmF (o2.2.1 1) 209 acc)) C) ∧ ∀ C ∈ _, (upd (o2.2.1 1) m (dmF (o2.2.1 1) 209 acc) m).toInt ≤ dpC (upd (o2.2.1 1) m (dmF (o2.2.1 1) 209 acc)) C
            rw [up_s, cm]
            obtain ⟨l, y6, y7⟩ := yv
            refine ⟨⟨upL l, (me _).mp (List.mem_map.mpr ⟨l, y6, rfl⟩), by rw [← dde l y6]; exact y7⟩, fun C hC => ?_⟩
            obtain ⟨l9, y8, y9⟩ := List.mem_map.mp ((me C).mpr hC)
            rw [← y9, ← dde l9 y8]; exact y3 l9 y8
