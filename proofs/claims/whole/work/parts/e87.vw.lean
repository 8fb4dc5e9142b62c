def shN (b : Nat) (f : Nat → Int32) : Nat → Int32 := fun g => f (b + g)
def CFr (o : cf_O) (R : Nat → List (List Nat)) (k : Nat) : Prop := RowE o (o.2.1 2 k).toInt.toNat ([k] :: R k) ∧ 0 ≤ (o.2.1 2 k).toInt ∧ (o.2.1 2 (k + 1)).toInt = (o.2.1 2 k).toInt + ((R k).length : Int) + 1 ∧ (o.2.1 2 (k + 1)).toInt ≤ (o.1 3).toInt ∧ (∀ l ∈ R k, Fall k l ∧ 2 ≤ l.length ∧ l.length ≤ 5) ∧ SzS (R k) ∧ (R k).length ≤ 300
def DSq (b m : Nat) (rows : List (List (List Int))) (d : Nat → Int32) : Prop := (∀ k : Nat, 1 ≤ k → k < b → k < m → (d k).toInt = 0) ∧ ∀ k : Nat, b ≤ k → k < m → (∃ C ∈ rows.getD k [], (d k).toInt = dpC d C) ∧ ∀ C ∈ rows.getD k [], (d k).toInt ≤ dpC d C
def CFa (b K : Nat) (gr : cf_O) (m : Nat) (R : Nat → List (List Nat)) (rows : List (List (List Int))) (o : cf_O) : Prop := (∀ k : Nat, 1 ≤ k → k < m → CFr o R k) ∧ (1 < m → (o.2.1 2 m).toInt = (o.1 3).toInt) ∧ 0 ≤ (o.1 3).toInt ∧ (o.1 3).toInt ≤ 301 * ((m : Int) - 1) ∧ ((o.1 3).toInt ≤ (o.1 4).toInt ∧ o.1 4 = o.1 5) ∧ cutsN b (shN b (gr.2.1 4)) (shN b (gr.2.1 5)) K (m - b) = some rows ∧ rows.length = b + (m - b) ∧ (∀ k : Nat, 1 ≤ k → k < m → ∀ C : List Int, C ∈ (R k).map upL ↔ C ∈ rows.getD k []) ∧ (∀ k : Nat, 1 ≤ k → k < m → 0 ≤ (o.2.1 1 k).toInt ∧ (o.2.1 1 k).toInt ≤ (k : Int)) ∧ DSq b m rows (o.2.1 1)
theorem dpl_i {d : Nat → Int32} {g : Nat} {l : List Nat} (hf : Fall g l) (hd : ∀ k : Nat, 1 ≤ k → k < g → 0 ≤ (d k).toInt ∧ (d k).toInt ≤ (k : Int)) (hg : g < 209) (h1 : 1 ≤ g) : (dpl d 0 l + 1).toInt = dpC d (upL l) ∧ 1 ≤ dpC d (upL l) ∧ dpC d (upL l) ≤ (g : Int) := by
  have b := dpI_b (d := d) (m := (g : Int) - 1) (L := upL l) (v := 0) (by decide) (by show (0 : Int) ≤ _; omega) (fun x hx => by
    obtain ⟨a, a1, a2⟩ := up_m.mp hx
    have fa := Fall_lt hf a1
    have := hd a (by omega) (by omega)
    rw [show x.toNat = a by omega]; omega)
  unfold dpC
  rw [dp_u] at b ⊢
  refine ⟨?_, by omega, by omega⟩
  rw [i_add (by show -2147483648 ≤ _ + (1 : Int); omega) (by show _ + (1 : Int) ≤ 2147483647; omega)]; rfl
theorem m_one : ∀ n : Nat, n < 209 → nv ((1 : Int64) <<< (((Int32.ofNat n) &&& 63).toInt64 &&& 63)) = 2 ^ (n % 64) := by decide +kernel
theorem Mkp_1 {v : Int32} {n : Nat} (h : v.toInt = (n : Int)) (hn : n < 209) : Mkp ((1 : Int64) <<< ((v &&& 63).toInt64 &&& 63)) [n] := fun k => by
  have e : v = Int32.ofNat n := Int32.toInt_inj.mp (by rw [h, Int32.toInt_ofNat_of_lt (by omega)])
  rw [e, m_one n hn, Nat.testBit_two_pow, decide_eq_true_eq]
  constructor
  · exact fun q => ⟨n, List.mem_singleton.mpr rfl, q⟩
  · rintro ⟨a, h1, h2⟩
    rw [← List.mem_singleton.mp h1]; exact h2
theorem CFr_f {o o' : cf_O} {R R' : Nat → List (List Nat)} {k w : Nat} (h : CFr o R k) (hw : (o.2.1 2 (k + 1)).toInt ≤ (w : Int)) (e1 : (o'.2.1 2 k).toInt = (o.2.1 2 k).toInt) (e2 : (o'.2.1 2 (k + 1)).toInt = (o.2.1 2 (k + 1)).toInt) (e3 : (o.1 3).toInt ≤ (o'.1 3).toInt) (eR : R' k = R k) (hf : ∀ i : Nat, i < w → o'.2.2 4 i = o.2.2 4 i ∧ o'.2.2 5 i = o.2.2 5 i) : CFr o' R' k := by
  obtain ⟨h1, h2, h3, h4, h5, h6, h7⟩ := h
  unfold CFr
  rw [eR, e1, e2]
  refine ⟨RowE_f h1 hf ?_, h2, h3, by omega, h5, h6, h7⟩
  have : ([k] :: R k).length = (R k).length + 1 := rfl
  omega
theorem rows_1 {rows : List (List (List Int))} {r : List (List Int)} {k : Nat} (h : k < rows.length) : (rows ++ [r]).getD k [] = rows.getD k [] := by
  rw [List.getD_eq_getElem?_getD, List.getD_eq_getElem?_getD, List.getElem?_append_left h]
theorem rows_2 {rows : List (List (List Int))} {r : List (List Int)} : (rows ++ [r]).getD rows.length [] = r := by
  rw [List.getD_eq_getElem?_getD, List.getElem?_append_right (Nat.le_refl _), Nat.sub_self]; rfl
theorem DSq_e {b m : Nat} {rows rows2 : List (List (List Int))} {d d2 : Nat → Int32} (h : DSq b m rows d) (er : ∀ k : Nat, k < m → rows2.getD k [] = rows.getD k []) (ed : ∀ k : Nat, k < m → d2 k = d k) (hn : ∀ k : Nat, b ≤ k → k < m → ∀ C ∈ rows.getD k [], ∀ x ∈ C, 0 ≤ x ∧ x < (k : Int)) : DSq b m rows2 d2 := by
  have de : ∀ k : Nat, b ≤ k → k < m → ∀ C ∈ rows.getD k [], dpC d C = dpC d2 C := fun k k1 k2 C hC => dpC_e (fun x hx => by
    have := hn k k1 k2 C hC x hx
    exact ed _ (by omega))
  refine ⟨fun k k0 k1 k2 => by rw [ed k k2]; exact h.1 k k0 k1 k2, fun k k1 k2 => ?_⟩
  rw [er k k2, ed k k2]
  obtain ⟨⟨C, c1, c2⟩, c3⟩ := h.2 k k1 k2
  exact ⟨⟨C, c1, by rw [← de k k1 k2 C c1]; exact c2⟩, fun C hC => by rw [← de k k1 k2 C hC]; exact c3 C hC⟩
theorem CFa_n {b K m : Nat} {gr o : cf_O} {R : Nat → List (List Nat)} {rows : List (List (List Int))} (hb : 1 ≤ b) (h : CFa b K gr m R rows o) : ∀ k : Nat, b ≤ k → k < m → ∀ C ∈ rows.getD k [], ∀ x ∈ C, 0 ≤ x ∧ x < (k : Int) := fun k k1 k2 C hC x hx => by
  obtain ⟨l, l1, l2⟩ := List.mem_map.mp ((h.2.2.2.2.2.2.2.1 k (by omega) k2 C).mpr hC)
  rw [← l2] at hx
  obtain ⟨a, a1, a2⟩ := up_m.mp hx
  have := Fall_lt ((h.1 k (by omega) k2).2.2.2.2.1 l l1).1 a1
  omega
