theorem bd {α β : Type} {x : Option α} {f : α → Option β} {r : β} (h : Option.bind x f = some r) : ∃ q, x = some q ∧ f q = some r := by
  cases x with
  | none => cases h
  | some q => exact ⟨q, rfl, h⟩
theorem opk {α β : Type} (x : α) (f : α → Option β) : op_k x f = f x := rfl
theorem ifn {α : Type} {c : Prop} [Decidable c] {x : Option α} {r : α} (h : (if c then none else x) = some r) : ¬ c ∧ x = some r := by
  by_cases q : c
  · rw [if_pos q] at h; cases h
  · rw [if_neg q] at h; exact ⟨q, h⟩
theorem ifc {α : Type} {c : Prop} [Decidable c] {x y : Option α} {r : α} (h : (if c then x else y) = some r) : (c ∧ x = some r) ∨ (¬ c ∧ y = some r) := by
  by_cases q : c
  · rw [if_pos q] at h; exact Or.inl ⟨q, h⟩
  · rw [if_neg q] at h; exact Or.inr ⟨q, h⟩
theorem ift {α : Type} {c : Prop} [Decidable c] {x y : Option α} {r : α} (h : (if c then x else y) = some r) (hc : c) : x = some r := by rw [if_pos hc] at h; exact h
theorem ife {α : Type} {c : Prop} [Decidable c] {x y : Option α} {r : α} (h : (if c then x else y) = some r) (hc : ¬ c) : y = some r := by rw [if_neg hc] at h; exact h
def Yn (r : Int32) (P : Prop) : Prop := (r = 1 ∧ P) ∨ (r = 0 ∧ ¬ P)
theorem Yn_i {r : Int32} {P Q : Prop} (h : Yn r P) (e : P ↔ Q) : Yn r Q := h.imp (fun q => ⟨q.1, e.mp q.2⟩) (fun q => ⟨q.1, fun z => q.2 (e.mpr z)⟩)
def Wdq (sg : Nat → Int32) (f t : Int) (l : List Int) : Prop := t - f = (l.length : Int) ∧ ∀ k : Nat, k < l.length → (sg (f.toNat + k)).toInt = l.getD k 0
theorem length_sp {v r : Int32} {o : cf_O} (h : fTx_length v o = some r) : r = o.2.1 2 v.toNatClampNeg - o.2.1 1 v.toNatClampNeg := by
  have h := (ifn (show (if _ then none else (if _ then none else some (o.2.1 2 v.toNatClampNeg - o.2.1 1 v.toNatClampNeg))) = some r from h)).2
  exact (Option.some.inj (ifn h).2).symm
theorem signOf_sp {v k r : Int32} {o : cf_O} (h : fTx_signOf v k o = some r) : r = o.2.1 0 (o.2.1 1 v.toNatClampNeg + k).toNatClampNeg := by
  have h := (ifn (show (if _ then none else (if _ then none else some (o.2.1 0 (o.2.1 1 v.toNatClampNeg + k).toNatClampNeg))) = some r from h)).2
  exact (Option.some.inj (ifn h).2).symm
theorem pl_k {f k : Int32} (h0 : 0 ≤ f.toInt) (h1 : f.toInt ≤ 1600) (k0 : 0 ≤ k.toInt) (k1 : k.toInt ≤ 1600) : (f + k).toNatClampNeg = f.toInt.toNat + k.toInt.toNat := by
  have e : (f + k).toInt = f.toInt + k.toInt := by rw [Int32.toInt_add, i_bm (by omega) (by omega)]
  have := tn_n (f + k)
  omega
theorem i_sub' {a b : Int32} (ha : 0 ≤ a.toInt) (ha1 : a.toInt ≤ 1600) (hb : 0 ≤ b.toInt) (hb1 : b.toInt ≤ 1600) : (a - b).toInt = a.toInt - b.toInt := by rw [Int32.toInt_sub, i_bm (by omega) (by omega)]
theorem i_add' {a b : Int32} (ha : 0 ≤ a.toInt) (ha1 : a.toInt ≤ 1600) (hb : 0 ≤ b.toInt) (hb1 : b.toInt ≤ 1600) : (a + b).toInt = a.toInt + b.toInt := by rw [Int32.toInt_add, i_bm (by omega) (by omega)]
theorem charAt0_sp {v q : Int32} (h : fJString_charAt_I_S0 v = some q) : ¬ (v < 0 ∨ 4 ≤ v.toNatClampNeg) ∧ q = ((cf_sb 0 v.toNatClampNeg &&& 255).toUInt32 % 65536).toInt32 := by
  obtain ⟨b, h2, h⟩ := bd (show Option.bind _ _ = some q from h)
  have h := Option.some.inj (ifn h).2
  subst h
  obtain ⟨u, -, h2⟩ := bd (show Option.bind _ _ = some b from h2)
  obtain ⟨h3, h2⟩ := ifn h2
  have h2 := (ifn (show (if _ then none else some ((cf_sb 0 v.toNatClampNeg &&& 255).toUInt32 % 65536).toInt32) = some b from h2)).2
  exact ⟨h3, (Option.some.inj h2).symm⟩
theorem litq0 : ∀ i : Nat, i < 4 → (((cf_sb 0 i &&& 255).toUInt32 % 65536).toInt32).toInt = ([46, 101, 110, 100] : List Int).getD i 0 := by decide +kernel
theorem isWord0_go : ∀ (fuel : Nat) (v1 v3 : Int32) (o : cf_O) (r : Int32), okO I_Tx o → 0 ≤ v3.toInt → v3.toInt ≤ 4 → (∀ k : Nat, (k : Int) < v3.toInt → (o.2.1 0 ((o.2.1 1 v1.toNatClampNeg).toInt.toNat + k)).toInt = ([46, 101, 110, 100] : List Int).getD k 0) → gTx_isWord_S0 fuel 0 v1 v3 o = some r → Yn r (∀ k : Nat, k < 4 → (o.2.1 0 ((o.2.1 1 v1.toNatClampNeg).toInt.toNat + k)).toInt = ([46, 101, 110, 100] : List Int).getD k 0)
  | 0, v1, v3, o, r, ho, h0, h1, hk, h => by cases h
  | fuel + 1, v1, v3, o, r, ho, h0, h1, hk, h => by
    have b1 : (0 : Int) ≤ (o.2.1 1 v1.toNatClampNeg).toInt ∧ (o.2.1 1 v1.toNatClampNeg).toInt ≤ 1600 := by have z := ho.2 1 v1.toNatClampNeg; exact ⟨z.1, Int.le_trans z.2 (by decide)⟩
    have h : (if (4 : Int32) ≤ v3 then some (1 : Int32) else Option.bind (fTx_signOf v1 v3 o) (fun q_5 => Option.bind (fJString_charAt_I_S0 v3) (fun q_8 => (if q_5 = q_8 then gTx_isWord_S0 fuel 0 v1 (v3 + 1) o else some (0 : Int32))))) = some r := h
    rcases ifc h with ⟨c, h⟩ | ⟨c, h⟩
    · have c : (4 : Int) ≤ v3.toInt := c_le c
      exact Or.inl ⟨(Option.some.inj h).symm, fun k hk2 => hk k (by omega)⟩
    · have c : v3.toInt < (4 : Int) := c_nle c
      obtain ⟨x, hx, h⟩ := bd h
      obtain ⟨y, hy, h⟩ := bd h
      have ex := signOf_sp hx
      have ey := (charAt0_sp hy).2
      have pl := pl_k (f := o.2.1 1 v1.toNatClampNeg) (k := v3) b1.1 b1.2 h0 (by omega)
      have el := litq0 v3.toNatClampNeg (by have := tn_n v3; omega)
      rcases ifc h with ⟨d, h⟩ | ⟨d, h⟩
      · have e3 : (v3 + 1).toInt = v3.toInt + 1 := by rw [i_add' h0 (by omega) (by decide) (by decide)]; rfl
        refine isWord0_go fuel v1 (v3 + 1) o r ho (by omega) (by omega) (fun k hk2 => ?_) h
        by_cases e : (k : Int) = v3.toInt
        · have ek : k = v3.toNatClampNeg := by have := tn_n v3; omega
          rw [← ey, ← d, ex, pl] at el
          rw [ek]; exact el
        · exact hk k (by omega)
      · refine Or.inr ⟨(Option.some.inj h).symm, fun q => d ?_⟩
        have z := q v3.toInt.toNat (by omega)
        rw [ex, ey, pl]
        exact Int32.toInt_inj.mp (z.trans el.symm)
theorem isWord0_sp {v1 r : Int32} {o : cf_O} (ho : okO I_Tx o) (h : fTx_isWord_S0 v1 o = some r) : Yn r (Wdq (o.2.1 0) (o.2.1 1 v1.toNatClampNeg).toInt (o.2.1 2 v1.toNatClampNeg).toInt [46, 101, 110, 100]) := by
  have b1 : (0 : Int) ≤ (o.2.1 1 v1.toNatClampNeg).toInt ∧ (o.2.1 1 v1.toNatClampNeg).toInt ≤ 1600 := by have z := ho.2 1 v1.toNatClampNeg; exact ⟨z.1, Int.le_trans z.2 (by decide)⟩
  have b2 : (0 : Int) ≤ (o.2.1 2 v1.toNatClampNeg).toInt ∧ (o.2.1 2 v1.toNatClampNeg).toInt ≤ 1600 := by have z := ho.2 2 v1.toNatClampNeg; exact ⟨z.1, Int.le_trans z.2 (by decide)⟩
  obtain ⟨q, hq, h⟩ := bd (show Option.bind (fTx_length v1 o) (fun q_1 => if q_1 = (4 : Int32) then gTx_isWord_S0 cfFU 0 v1 0 o else some (0 : Int32)) = some r from h)
  have eq := length_sp hq
  have es : (o.2.1 2 v1.toNatClampNeg - o.2.1 1 v1.toNatClampNeg).toInt = (o.2.1 2 v1.toNatClampNeg).toInt - (o.2.1 1 v1.toNatClampNeg).toInt := i_sub' b2.1 b2.2 b1.1 b1.2
  rcases ifc h with ⟨c, h⟩ | ⟨c, h⟩
  · have z := isWord0_go cfFU v1 0 o r ho (by decide) (by decide) (fun k hk => absurd hk (by rw [show (0 : Int32).toInt = 0 from rfl]; omega)) h
    refine Yn_i z ⟨fun q => ⟨?_, q⟩, fun q => q.2⟩
    rw [← es, ← eq, c]; rfl
  · refine Or.inr ⟨(Option.some.inj h).symm, fun z => c ?_⟩
    apply Int32.toInt_inj.mp
    rw [eq, es]; exact z.1
theorem charAt1_sp {v q : Int32} (h : fJString_charAt_I_S1 v = some q) : ¬ (v < 0 ∨ 4 ≤ v.toNatClampNeg) ∧ q = ((cf_sb 1 v.toNatClampNeg &&& 255).toUInt32 % 65536).toInt32 := by
  obtain ⟨b, h2, h⟩ := bd (show Option.bind _ _ = some q from h)
  have h := Option.some.inj (ifn h).2
  subst h
  obtain ⟨u, -, h2⟩ := bd (show Option.bind _ _ = some b from h2)
  obtain ⟨h3, h2⟩ := ifn h2
  have h2 := (ifn (show (if _ then none else some ((cf_sb 1 v.toNatClampNeg &&& 255).toUInt32 % 65536).toInt32) = some b from h2)).2
  exact ⟨h3, (Option.some.inj h2).symm⟩
theorem litq1 : ∀ i : Nat, i < 4 → (((cf_sb 1 i &&& 255).toUInt32 % 65536).toInt32).toInt = ([99, 101, 108, 108] : List Int).getD i 0 := by decide +kernel
theorem isWord1_go : ∀ (fuel : Nat) (v1 v3 : Int32) (o : cf_O) (r : Int32), okO I_Tx o → 0 ≤ v3.toInt → v3.toInt ≤ 4 → (∀ k : Nat, (k : Int) < v3.toInt → (o.2.1 0 ((o.2.1 1 v1.toNatClampNeg).toInt.toNat + k)).toInt = ([99, 101, 108, 108] : List Int).getD k 0) → gTx_isWord_S1 fuel 0 v1 v3 o = some r → Yn r (∀ k : Nat, k < 4 → (o.2.1 0 ((o.2.1 1 v1.toNatClampNeg).toInt.toNat + k)).toInt = ([99, 101, 108, 108] : List Int).getD k 0)
  | 0, v1, v3, o, r, ho, h0, h1, hk, h => by cases h
  | fuel + 1, v1, v3, o, r, ho, h0, h1, hk, h => by
    have b1 : (0 : Int) ≤ (o.2.1 1 v1.toNatClampNeg).toInt ∧ (o.2.1 1 v1.toNatClampNeg).toInt ≤ 1600 := by have z := ho.2 1 v1.toNatClampNeg; exact ⟨z.1, Int.le_trans z.2 (by decide)⟩
    have h : (if (4 : Int32) ≤ v3 then some (1 : Int32) else Option.bind (fTx_signOf v1 v3 o) (fun q_5 => Option.bind (fJString_charAt_I_S1 v3) (fun q_8 => (if q_5 = q_8 then gTx_isWord_S1 fuel 0 v1 (v3 + 1) o else some (0 : Int32))))) = some r := h
    rcases ifc h with ⟨c, h⟩ | ⟨c, h⟩
    · have c : (4 : Int) ≤ v3.toInt := c_le c
      exact Or.inl ⟨(Option.some.inj h).symm, fun k hk2 => hk k (by omega)⟩
    · have c : v3.toInt < (4 : Int) := c_nle c
      obtain ⟨x, hx, h⟩ := bd h
      obtain ⟨y, hy, h⟩ := bd h
      have ex := signOf_sp hx
      have ey := (charAt1_sp hy).2
      have pl := pl_k (f := o.2.1 1 v1.toNatClampNeg) (k := v3) b1.1 b1.2 h0 (by omega)
      have el := litq1 v3.toNatClampNeg (by have := tn_n v3; omega)
      rcases ifc h with ⟨d, h⟩ | ⟨d, h⟩
      · have e3 : (v3 + 1).toInt = v3.toInt + 1 := by rw [i_add' h0 (by omega) (by decide) (by decide)]; rfl
        refine isWord1_go fuel v1 (v3 + 1) o r ho (by omega) (by omega) (fun k hk2 => ?_) h
        by_cases e : (k : Int) = v3.toInt
        · have ek : k = v3.toNatClampNeg := by have := tn_n v3; omega
          rw [← ey, ← d, ex, pl] at el
          rw [ek]; exact el
        · exact hk k (by omega)
      · refine Or.inr ⟨(Option.some.inj h).symm, fun q => d ?_⟩
        have z := q v3.toInt.toNat (by omega)
        rw [ex, ey, pl]
        exact Int32.toInt_inj.mp (z.trans el.symm)
theorem isWord1_sp {v1 r : Int32} {o : cf_O} (ho : okO I_Tx o) (h : fTx_isWord_S1 v1 o = some r) : Yn r (Wdq (o.2.1 0) (o.2.1 1 v1.toNatClampNeg).toInt (o.2.1 2 v1.toNatClampNeg).toInt [99, 101, 108, 108]) := by
  have b1 : (0 : Int) ≤ (o.2.1 1 v1.toNatClampNeg).toInt ∧ (o.2.1 1 v1.toNatClampNeg).toInt ≤ 1600 := by have z := ho.2 1 v1.toNatClampNeg; exact ⟨z.1, Int.le_trans z.2 (by decide)⟩
  have b2 : (0 : Int) ≤ (o.2.1 2 v1.toNatClampNeg).toInt ∧ (o.2.1 2 v1.toNatClampNeg).toInt ≤ 1600 := by have z := ho.2 2 v1.toNatClampNeg; exact ⟨z.1, Int.le_trans z.2 (by decide)⟩
  obtain ⟨q, hq, h⟩ := bd (show Option.bind (fTx_length v1 o) (fun q_1 => if q_1 = (4 : Int32) then gTx_isWord_S1 cfFU 0 v1 0 o else some (0 : Int32)) = some r from h)
  have eq := length_sp hq
  have es : (o.2.1 2 v1.toNatClampNeg - o.2.1 1 v1.toNatClampNeg).toInt = (o.2.1 2 v1.toNatClampNeg).toInt - (o.2.1 1 v1.toNatClampNeg).toInt := i_sub' b2.1 b2.2 b1.1 b1.2
  rcases ifc h with ⟨c, h⟩ | ⟨c, h⟩
  · have z := isWord1_go cfFU v1 0 o r ho (by decide) (by decide) (fun k hk => absurd hk (by rw [show (0 : Int32).toInt = 0 from rfl]; omega)) h
    refine Yn_i z ⟨fun q => ⟨?_, q⟩, fun q => q.2⟩
    rw [← es, ← eq, c]; rfl
  · refine Or.inr ⟨(Option.some.inj h).symm, fun z => c ?_⟩
    apply Int32.toInt_inj.mp
    rw [eq, es]; exact z.1
theorem charAt2_sp {v q : Int32} (h : fJString_charAt_I_S2 v = some q) : ¬ (v < 0 ∨ 7 ≤ v.toNatClampNeg) ∧ q = ((cf_sb 2 v.toNatClampNeg &&& 255).toUInt32 % 65536).toInt32 := by
  obtain ⟨b, h2, h⟩ := bd (show Option.bind _ _ = some q from h)
  have h := Option.some.inj (ifn h).2
  subst h
  obtain ⟨u, -, h2⟩ := bd (show Option.bind _ _ = some b from h2)
  obtain ⟨h3, h2⟩ := ifn h2
  have h2 := (ifn (show (if _ then none else some ((cf_sb 2 v.toNatClampNeg &&& 255).toUInt32 % 65536).toInt32) = some b from h2)).2
  exact ⟨h3, (Option.some.inj h2).symm⟩
theorem litq2 : ∀ i : Nat, i < 7 → (((cf_sb 2 i &&& 255).toUInt32 % 65536).toInt32).toInt = ([46, 105, 110, 112, 117, 116, 115] : List Int).getD i 0 := by decide +kernel
theorem isWord2_go : ∀ (fuel : Nat) (v1 v3 : Int32) (o : cf_O) (r : Int32), okO I_Tx o → 0 ≤ v3.toInt → v3.toInt ≤ 7 → (∀ k : Nat, (k : Int) < v3.toInt → (o.2.1 0 ((o.2.1 1 v1.toNatClampNeg).toInt.toNat + k)).toInt = ([46, 105, 110, 112, 117, 116, 115] : List Int).getD k 0) → gTx_isWord_S2 fuel 0 v1 v3 o = some r → Yn r (∀ k : Nat, k < 7 → (o.2.1 0 ((o.2.1 1 v1.toNatClampNeg).toInt.toNat + k)).toInt = ([46, 105, 110, 112, 117, 116, 115] : List Int).getD k 0)
  | 0, v1, v3, o, r, ho, h0, h1, hk, h => by cases h
  | fuel + 1, v1, v3, o, r, ho, h0, h1, hk, h => by
    have b1 : (0 : Int) ≤ (o.2.1 1 v1.toNatClampNeg).toInt ∧ (o.2.1 1 v1.toNatClampNeg).toInt ≤ 1600 := by have z := ho.2 1 v1.toNatClampNeg; exact ⟨z.1, Int.le_trans z.2 (by decide)⟩
    have h : (if (7 : Int32) ≤ v3 then some (1 : Int32) else Option.bind (fTx_signOf v1 v3 o) (fun q_5 => Option.bind (fJString_charAt_I_S2 v3) (fun q_8 => (if q_5 = q_8 then gTx_isWord_S2 fuel 0 v1 (v3 + 1) o else some (0 : Int32))))) = some r := h
    rcases ifc h with ⟨c, h⟩ | ⟨c, h⟩
    · have c : (7 : Int) ≤ v3.toInt := c_le c
      exact Or.inl ⟨(Option.some.inj h).symm, fun k hk2 => hk k (by omega)⟩
    · have c : v3.toInt < (7 : Int) := c_nle c
      obtain ⟨x, hx, h⟩ := bd h
      obtain ⟨y, hy, h⟩ := bd h
      have ex := signOf_sp hx
      have ey := (charAt2_sp hy).2
      have pl := pl_k (f := o.2.1 1 v1.toNatClampNeg) (k := v3) b1.1 b1.2 h0 (by omega)
      have el := litq2 v3.toNatClampNeg (by have := tn_n v3; omega)
      rcases ifc h with ⟨d, h⟩ | ⟨d, h⟩
      · have e3 : (v3 + 1).toInt = v3.toInt + 1 := by rw [i_add' h0 (by omega) (by decide) (by decide)]; rfl
        refine isWord2_go fuel v1 (v3 + 1) o r ho (by omega) (by omega) (fun k hk2 => ?_) h
        by_cases e : (k : Int) = v3.toInt
        · have ek : k = v3.toNatClampNeg := by have := tn_n v3; omega
          rw [← ey, ← d, ex, pl] at el
          rw [ek]; exact el
        · exact hk k (by omega)
      · refine Or.inr ⟨(Option.some.inj h).symm, fun q => d ?_⟩
        have z := q v3.toInt.toNat (by omega)
        rw [ex, ey, pl]
        exact Int32.toInt_inj.mp (z.trans el.symm)
theorem isWord2_sp {v1 r : Int32} {o : cf_O} (ho : okO I_Tx o) (h : fTx_isWord_S2 v1 o = some r) : Yn r (Wdq (o.2.1 0) (o.2.1 1 v1.toNatClampNeg).toInt (o.2.1 2 v1.toNatClampNeg).toInt [46, 105, 110, 112, 117, 116, 115]) := by
  have b1 : (0 : Int) ≤ (o.2.1 1 v1.toNatClampNeg).toInt ∧ (o.2.1 1 v1.toNatClampNeg).toInt ≤ 1600 := by have z := ho.2 1 v1.toNatClampNeg; exact ⟨z.1, Int.le_trans z.2 (by decide)⟩
  have b2 : (0 : Int) ≤ (o.2.1 2 v1.toNatClampNeg).toInt ∧ (o.2.1 2 v1.toNatClampNeg).toInt ≤ 1600 := by have z := ho.2 2 v1.toNatClampNeg; exact ⟨z.1, Int.le_trans z.2 (by decide)⟩
  obtain ⟨q, hq, h⟩ := bd (show Option.bind (fTx_length v1 o) (fun q_1 => if q_1 = (7 : Int32) then gTx_isWord_S2 cfFU 0 v1 0 o else some (0 : Int32)) = some r from h)
  have eq := length_sp hq
  have es : (o.2.1 2 v1.toNatClampNeg - o.2.1 1 v1.toNatClampNeg).toInt = (o.2.1 2 v1.toNatClampNeg).toInt - (o.2.1 1 v1.toNatClampNeg).toInt := i_sub' b2.1 b2.2 b1.1 b1.2
  rcases ifc h with ⟨c, h⟩ | ⟨c, h⟩
  · have z := isWord2_go cfFU v1 0 o r ho (by decide) (by decide) (fun k hk => absurd hk (by rw [show (0 : Int32).toInt = 0 from rfl]; omega)) h
    refine Yn_i z ⟨fun q => ⟨?_, q⟩, fun q => q.2⟩
    rw [← es, ← eq, c]; rfl
  · refine Or.inr ⟨(Option.some.inj h).symm, fun z => c ?_⟩
    apply Int32.toInt_inj.mp
    rw [eq, es]; exact z.1
theorem charAt3_sp {v q : Int32} (h : fJString_charAt_I_S3 v = some q) : ¬ (v < 0 ∨ 8 ≤ v.toNatClampNeg) ∧ q = ((cf_sb 3 v.toNatClampNeg &&& 255).toUInt32 % 65536).toInt32 := by
  obtain ⟨b, h2, h⟩ := bd (show Option.bind _ _ = some q from h)
  have h := Option.some.inj (ifn h).2
  subst h
  obtain ⟨u, -, h2⟩ := bd (show Option.bind _ _ = some b from h2)
  obtain ⟨h3, h2⟩ := ifn h2
  have h2 := (ifn (show (if _ then none else some ((cf_sb 3 v.toNatClampNeg &&& 255).toUInt32 % 65536).toInt32) = some b from h2)).2
  exact ⟨h3, (Option.some.inj h2).symm⟩
theorem litq3 : ∀ i : Nat, i < 8 → (((cf_sb 3 i &&& 255).toUInt32 % 65536).toInt32).toInt = ([46, 111, 117, 116, 112, 117, 116, 115] : List Int).getD i 0 := by decide +kernel
theorem isWord3_go : ∀ (fuel : Nat) (v1 v3 : Int32) (o : cf_O) (r : Int32), okO I_Tx o → 0 ≤ v3.toInt → v3.toInt ≤ 8 → (∀ k : Nat, (k : Int) < v3.toInt → (o.2.1 0 ((o.2.1 1 v1.toNatClampNeg).toInt.toNat + k)).toInt = ([46, 111, 117, 116, 112, 117, 116, 115] : List Int).getD k 0) → gTx_isWord_S3 fuel 0 v1 v3 o = some r → Yn r (∀ k : Nat, k < 8 → (o.2.1 0 ((o.2.1 1 v1.toNatClampNeg).toInt.toNat + k)).toInt = ([46, 111, 117, 116, 112, 117, 116, 115] : List Int).getD k 0)
  | 0, v1, v3, o, r, ho, h0, h1, hk, h => by cases h
  | fuel + 1, v1, v3, o, r, ho, h0, h1, hk, h => by
    have b1 : (0 : Int) ≤ (o.2.1 1 v1.toNatClampNeg).toInt ∧ (o.2.1 1 v1.toNatClampNeg).toInt ≤ 1600 := by have z := ho.2 1 v1.toNatClampNeg; exact ⟨z.1, Int.le_trans z.2 (by decide)⟩
    have h : (if (8 : Int32) ≤ v3 then some (1 : Int32) else Option.bind (fTx_signOf v1 v3 o) (fun q_5 => Option.bind (fJString_charAt_I_S3 v3) (fun q_8 => (if q_5 = q_8 then gTx_isWord_S3 fuel 0 v1 (v3 + 1) o else some (0 : Int32))))) = some r := h
    rcases ifc h with ⟨c, h⟩ | ⟨c, h⟩
    · have c : (8 : Int) ≤ v3.toInt := c_le c
      exact Or.inl ⟨(Option.some.inj h).symm, fun k hk2 => hk k (by omega)⟩
    · have c : v3.toInt < (8 : Int) := c_nle c
      obtain ⟨x, hx, h⟩ := bd h
      obtain ⟨y, hy, h⟩ := bd h
      have ex := signOf_sp hx
      have ey := (charAt3_sp hy).2
      have pl := pl_k (f := o.2.1 1 v1.toNatClampNeg) (k := v3) b1.1 b1.2 h0 (by omega)
      have el := litq3 v3.toNatClampNeg (by have := tn_n v3; omega)
      rcases ifc h with ⟨d, h⟩ | ⟨d, h⟩
      · have e3 : (v3 + 1).toInt = v3.toInt + 1 := by rw [i_add' h0 (by omega) (by decide) (by decide)]; rfl
        refine isWord3_go fuel v1 (v3 + 1) o r ho (by omega) (by omega) (fun k hk2 => ?_) h
        by_cases e : (k : Int) = v3.toInt
        · have ek : k = v3.toNatClampNeg := by have := tn_n v3; omega
          rw [← ey, ← d, ex, pl] at el
          rw [ek]; exact el
        · exact hk k (by omega)
      · refine Or.inr ⟨(Option.some.inj h).symm, fun q => d ?_⟩
        have z := q v3.toInt.toNat (by omega)
        rw [ex, ey, pl]
        exact Int32.toInt_inj.mp (z.trans el.symm)
theorem isWord3_sp {v1 r : Int32} {o : cf_O} (ho : okO I_Tx o) (h : fTx_isWord_S3 v1 o = some r) : Yn r (Wdq (o.2.1 0) (o.2.1 1 v1.toNatClampNeg).toInt (o.2.1 2 v1.toNatClampNeg).toInt [46, 111, 117, 116, 112, 117, 116, 115]) := by
  have b1 : (0 : Int) ≤ (o.2.1 1 v1.toNatClampNeg).toInt ∧ (o.2.1 1 v1.toNatClampNeg).toInt ≤ 1600 := by have z := ho.2 1 v1.toNatClampNeg; exact ⟨z.1, Int.le_trans z.2 (by decide)⟩
  have b2 : (0 : Int) ≤ (o.2.1 2 v1.toNatClampNeg).toInt ∧ (o.2.1 2 v1.toNatClampNeg).toInt ≤ 1600 := by have z := ho.2 2 v1.toNatClampNeg; exact ⟨z.1, Int.le_trans z.2 (by decide)⟩
  obtain ⟨q, hq, h⟩ := bd (show Option.bind (fTx_length v1 o) (fun q_1 => if q_1 = (8 : Int32) then gTx_isWord_S3 cfFU 0 v1 0 o else some (0 : Int32)) = some r from h)
  have eq := length_sp hq
  have es : (o.2.1 2 v1.toNatClampNeg - o.2.1 1 v1.toNatClampNeg).toInt = (o.2.1 2 v1.toNatClampNeg).toInt - (o.2.1 1 v1.toNatClampNeg).toInt := i_sub' b2.1 b2.2 b1.1 b1.2
  rcases ifc h with ⟨c, h⟩ | ⟨c, h⟩
  · have z := isWord3_go cfFU v1 0 o r ho (by decide) (by decide) (fun k hk => absurd hk (by rw [show (0 : Int32).toInt = 0 from rfl]; omega)) h
    refine Yn_i z ⟨fun q => ⟨?_, q⟩, fun q => q.2⟩
    rw [← es, ← eq, c]; rfl
  · refine Or.inr ⟨(Option.some.inj h).symm, fun z => c ?_⟩
    apply Int32.toInt_inj.mp
    rw [eq, es]; exact z.1
theorem charAt4_sp {v q : Int32} (h : fJString_charAt_I_S4 v = some q) : ¬ (v < 0 ∨ 4 ≤ v.toNatClampNeg) ∧ q = ((cf_sb 4 v.toNatClampNeg &&& 255).toUInt32 % 65536).toInt32 := by
  obtain ⟨b, h2, h⟩ := bd (show Option.bind _ _ = some q from h)
  have h := Option.some.inj (ifn h).2
  subst h
  obtain ⟨u, -, h2⟩ := bd (show Option.bind _ _ = some b from h2)
  obtain ⟨h3, h2⟩ := ifn h2
  have h2 := (ifn (show (if _ then none else some ((cf_sb 4 v.toNatClampNeg &&& 255).toUInt32 % 65536).toInt32) = some b from h2)).2
  exact ⟨h3, (Option.some.inj h2).symm⟩
theorem litq4 : ∀ i : Nat, i < 4 → (((cf_sb 4 i &&& 255).toUInt32 % 65536).toInt32).toInt = ([46, 101, 110, 100] : List Int).getD i 0 := by decide +kernel
theorem isWord4_go : ∀ (fuel : Nat) (v1 v3 : Int32) (o : cf_O) (r : Int32), okO I_Tx o → 0 ≤ v3.toInt → v3.toInt ≤ 4 → (∀ k : Nat, (k : Int) < v3.toInt → (o.2.1 0 ((o.2.1 1 v1.toNatClampNeg).toInt.toNat + k)).toInt = ([46, 101, 110, 100] : List Int).getD k 0) → gTx_isWord_S4 fuel 0 v1 v3 o = some r → Yn r (∀ k : Nat, k < 4 → (o.2.1 0 ((o.2.1 1 v1.toNatClampNeg).toInt.toNat + k)).toInt = ([46, 101, 110, 100] : List Int).getD k 0)
  | 0, v1, v3, o, r, ho, h0, h1, hk, h => by cases h
  | fuel + 1, v1, v3, o, r, ho, h0, h1, hk, h => by
    have b1 : (0 : Int) ≤ (o.2.1 1 v1.toNatClampNeg).toInt ∧ (o.2.1 1 v1.toNatClampNeg).toInt ≤ 1600 := by have z := ho.2 1 v1.toNatClampNeg; exact ⟨z.1, Int.le_trans z.2 (by decide)⟩
    have h : (if (4 : Int32) ≤ v3 then some (1 : Int32) else Option.bind (fTx_signOf v1 v3 o) (fun q_5 => Option.bind (fJString_charAt_I_S4 v3) (fun q_8 => (if q_5 = q_8 then gTx_isWord_S4 fuel 0 v1 (v3 + 1) o else some (0 : Int32))))) = some r := h
    rcases ifc h with ⟨c, h⟩ | ⟨c, h⟩
    · have c : (4 : Int) ≤ v3.toInt := c_le c
      exact Or.inl ⟨(Option.some.inj h).symm, fun k hk2 => hk k (by omega)⟩
    · have c : v3.toInt < (4 : Int) := c_nle c
      obtain ⟨x, hx, h⟩ := bd h
      obtain ⟨y, hy, h⟩ := bd h
      have ex := signOf_sp hx
      have ey := (charAt4_sp hy).2
      have pl := pl_k (f := o.2.1 1 v1.toNatClampNeg) (k := v3) b1.1 b1.2 h0 (by omega)
      have el := litq4 v3.toNatClampNeg (by have := tn_n v3; omega)
      rcases ifc h with ⟨d, h⟩ | ⟨d, h⟩
      · have e3 : (v3 + 1).toInt = v3.toInt + 1 := by rw [i_add' h0 (by omega) (by decide) (by decide)]; rfl
        refine isWord4_go fuel v1 (v3 + 1) o r ho (by omega) (by omega) (fun k hk2 => ?_) h
        by_cases e : (k : Int) = v3.toInt
        · have ek : k = v3.toNatClampNeg := by have := tn_n v3; omega
          rw [← ey, ← d, ex, pl] at el
          rw [ek]; exact el
        · exact hk k (by omega)
      · refine Or.inr ⟨(Option.some.inj h).symm, fun q => d ?_⟩
        have z := q v3.toInt.toNat (by omega)
        rw [ex, ey, pl]
        exact Int32.toInt_inj.mp (z.trans el.symm)
theorem isWord4_sp {v1 r : Int32} {o : cf_O} (ho : okO I_Tx o) (h : fTx_isWord_S4 v1 o = some r) : Yn r (Wdq (o.2.1 0) (o.2.1 1 v1.toNatClampNeg).toInt (o.2.1 2 v1.toNatClampNeg).toInt [46, 101, 110, 100]) := by
  have b1 : (0 : Int) ≤ (o.2.1 1 v1.toNatClampNeg).toInt ∧ (o.2.1 1 v1.toNatClampNeg).toInt ≤ 1600 := by have z := ho.2 1 v1.toNatClampNeg; exact ⟨z.1, Int.le_trans z.2 (by decide)⟩
  have b2 : (0 : Int) ≤ (o.2.1 2 v1.toNatClampNeg).toInt ∧ (o.2.1 2 v1.toNatClampNeg).toInt ≤ 1600 := by have z := ho.2 2 v1.toNatClampNeg; exact ⟨z.1, Int.le_trans z.2 (by decide)⟩
  obtain ⟨q, hq, h⟩ := bd (show Option.bind (fTx_length v1 o) (fun q_1 => if q_1 = (4 : Int32) then gTx_isWord_S4 cfFU 0 v1 0 o else some (0 : Int32)) = some r from h)
  have eq := length_sp hq
  have es : (o.2.1 2 v1.toNatClampNeg - o.2.1 1 v1.toNatClampNeg).toInt = (o.2.1 2 v1.toNatClampNeg).toInt - (o.2.1 1 v1.toNatClampNeg).toInt := i_sub' b2.1 b2.2 b1.1 b1.2
  rcases ifc h with ⟨c, h⟩ | ⟨c, h⟩
  · have z := isWord4_go cfFU v1 0 o r ho (by decide) (by decide) (fun k hk => absurd hk (by rw [show (0 : Int32).toInt = 0 from rfl]; omega)) h
    refine Yn_i z ⟨fun q => ⟨?_, q⟩, fun q => q.2⟩
    rw [← es, ← eq, c]; rfl
  · refine Or.inr ⟨(Option.some.inj h).symm, fun z => c ?_⟩
    apply Int32.toInt_inj.mp
    rw [eq, es]; exact z.1
theorem charAt5_sp {v q : Int32} (h : fJString_charAt_I_S5 v = some q) : ¬ (v < 0 ∨ 6 ≤ v.toNatClampNeg) ∧ q = ((cf_sb 5 v.toNatClampNeg &&& 255).toUInt32 % 65536).toInt32 := by
  obtain ⟨b, h2, h⟩ := bd (show Option.bind _ _ = some q from h)
  have h := Option.some.inj (ifn h).2
  subst h
  obtain ⟨u, -, h2⟩ := bd (show Option.bind _ _ = some b from h2)
  obtain ⟨h3, h2⟩ := ifn h2
  have h2 := (ifn (show (if _ then none else some ((cf_sb 5 v.toNatClampNeg &&& 255).toUInt32 % 65536).toInt32) = some b from h2)).2
  exact ⟨h3, (Option.some.inj h2).symm⟩
theorem litq5 : ∀ i : Nat, i < 6 → (((cf_sb 5 i &&& 255).toUInt32 % 65536).toInt32).toInt = ([46, 110, 97, 109, 101, 115] : List Int).getD i 0 := by decide +kernel
theorem isWord5_go : ∀ (fuel : Nat) (v1 v3 : Int32) (o : cf_O) (r : Int32), okO I_Tx o → 0 ≤ v3.toInt → v3.toInt ≤ 6 → (∀ k : Nat, (k : Int) < v3.toInt → (o.2.1 0 ((o.2.1 1 v1.toNatClampNeg).toInt.toNat + k)).toInt = ([46, 110, 97, 109, 101, 115] : List Int).getD k 0) → gTx_isWord_S5 fuel 0 v1 v3 o = some r → Yn r (∀ k : Nat, k < 6 → (o.2.1 0 ((o.2.1 1 v1.toNatClampNeg).toInt.toNat + k)).toInt = ([46, 110, 97, 109, 101, 115] : List Int).getD k 0)
  | 0, v1, v3, o, r, ho, h0, h1, hk, h => by cases h
  | fuel + 1, v1, v3, o, r, ho, h0, h1, hk, h => by
    have b1 : (0 : Int) ≤ (o.2.1 1 v1.toNatClampNeg).toInt ∧ (o.2.1 1 v1.toNatClampNeg).toInt ≤ 1600 := by have z := ho.2 1 v1.toNatClampNeg; exact ⟨z.1, Int.le_trans z.2 (by decide)⟩
    have h : (if (6 : Int32) ≤ v3 then some (1 : Int32) else Option.bind (fTx_signOf v1 v3 o) (fun q_5 => Option.bind (fJString_charAt_I_S5 v3) (fun q_8 => (if q_5 = q_8 then gTx_isWord_S5 fuel 0 v1 (v3 + 1) o else some (0 : Int32))))) = some r := h
    rcases ifc h with ⟨c, h⟩ | ⟨c, h⟩
    · have c : (6 : Int) ≤ v3.toInt := c_le c
      exact Or.inl ⟨(Option.some.inj h).symm, fun k hk2 => hk k (by omega)⟩
    · have c : v3.toInt < (6 : Int) := c_nle c
      obtain ⟨x, hx, h⟩ := bd h
      obtain ⟨y, hy, h⟩ := bd h
      have ex := signOf_sp hx
      have ey := (charAt5_sp hy).2
      have pl := pl_k (f := o.2.1 1 v1.toNatClampNeg) (k := v3) b1.1 b1.2 h0 (by omega)
      have el := litq5 v3.toNatClampNeg (by have := tn_n v3; omega)
      rcases ifc h with ⟨d, h⟩ | ⟨d, h⟩
      · have e3 : (v3 + 1).toInt = v3.toInt + 1 := by rw [i_add' h0 (by omega) (by decide) (by decide)]; rfl
        refine isWord5_go fuel v1 (v3 + 1) o r ho (by omega) (by omega) (fun k hk2 => ?_) h
        by_cases e : (k : Int) = v3.toInt
        · have ek : k = v3.toNatClampNeg := by have := tn_n v3; omega
          rw [← ey, ← d, ex, pl] at el
          rw [ek]; exact el
        · exact hk k (by omega)
      · refine Or.inr ⟨(Option.some.inj h).symm, fun q => d ?_⟩
        have z := q v3.toInt.toNat (by omega)
        rw [ex, ey, pl]
        exact Int32.toInt_inj.mp (z.trans el.symm)
theorem isWord5_sp {v1 r : Int32} {o : cf_O} (ho : okO I_Tx o) (h : fTx_isWord_S5 v1 o = some r) : Yn r (Wdq (o.2.1 0) (o.2.1 1 v1.toNatClampNeg).toInt (o.2.1 2 v1.toNatClampNeg).toInt [46, 110, 97, 109, 101, 115]) := by
  have b1 : (0 : Int) ≤ (o.2.1 1 v1.toNatClampNeg).toInt ∧ (o.2.1 1 v1.toNatClampNeg).toInt ≤ 1600 := by have z := ho.2 1 v1.toNatClampNeg; exact ⟨z.1, Int.le_trans z.2 (by decide)⟩
  have b2 : (0 : Int) ≤ (o.2.1 2 v1.toNatClampNeg).toInt ∧ (o.2.1 2 v1.toNatClampNeg).toInt ≤ 1600 := by have z := ho.2 2 v1.toNatClampNeg; exact ⟨z.1, Int.le_trans z.2 (by decide)⟩
  obtain ⟨q, hq, h⟩ := bd (show Option.bind (fTx_length v1 o) (fun q_1 => if q_1 = (6 : Int32) then gTx_isWord_S5 cfFU 0 v1 0 o else some (0 : Int32)) = some r from h)
  have eq := length_sp hq
  have es : (o.2.1 2 v1.toNatClampNeg - o.2.1 1 v1.toNatClampNeg).toInt = (o.2.1 2 v1.toNatClampNeg).toInt - (o.2.1 1 v1.toNatClampNeg).toInt := i_sub' b2.1 b2.2 b1.1 b1.2
  rcases ifc h with ⟨c, h⟩ | ⟨c, h⟩
  · have z := isWord5_go cfFU v1 0 o r ho (by decide) (by decide) (fun k hk => absurd hk (by rw [show (0 : Int32).toInt = 0 from rfl]; omega)) h
    refine Yn_i z ⟨fun q => ⟨?_, q⟩, fun q => q.2⟩
    rw [← es, ← eq, c]; rfl
  · refine Or.inr ⟨(Option.some.inj h).symm, fun z => c ?_⟩
    apply Int32.toInt_inj.mp
    rw [eq, es]; exact z.1
def nCh (x : Int) : Prop := (97 ≤ x ∧ x ≤ 122) ∨ (65 ≤ x ∧ x ≤ 90) ∨ (48 ≤ x ∧ x ≤ 57) ∨ x = 95
theorem b01_sp {s r : Int32} (h : (if ¬ (s = 0 ∨ s = 1) then none else some s) = some r) : r = s := (Option.some.inj (ifn h).2).symm
theorem nameSign_sp {v r : Int32} (h : fTx_isNameSign v = some r) : Yn r (nCh v.toInt) := by
  unfold nCh
  have k0 : fTx_isNameSign_47 0 = some r → r = 0 := fun q => b01_sp q
  have k1 : fTx_isNameSign_42 = some r → r = 1 := fun q => b01_sp (s := 1) q
  have h3 : fTx_isNameSign_36 v = some r → (r = 1 ∧ v.toInt = 95) ∨ (r = 0 ∧ ¬ v.toInt = 95) := fun q => by
    rcases ifc (show (if v = (95 : Int32) then fTx_isNameSign_42 else fTx_isNameSign_47 0) = some r from q) with ⟨c, q⟩ | ⟨c, q⟩
    · exact Or.inl ⟨k1 q, c_eq c⟩
    · exact Or.inr ⟨k0 q, c_ne c⟩
  have h2 : fTx_isNameSign_24 v = some r → (r = 1 ∧ ((48 ≤ v.toInt ∧ v.toInt ≤ 57) ∨ v.toInt = 95)) ∨ (r = 0 ∧ ¬ ((48 ≤ v.toInt ∧ v.toInt ≤ 57) ∨ v.toInt = 95)) := fun q => by
    rcases ifc (show (if v < (48 : Int32) then fTx_isNameSign_36 v else (if v ≤ (57 : Int32) then fTx_isNameSign_42 else fTx_isNameSign_36 v)) = some r from q) with ⟨c, q⟩ | ⟨c, q⟩
    · have c : v.toInt < 48 := c_lt c
      rcases h3 q with q | q
      · exact Or.inl ⟨q.1, by omega⟩
      · exact Or.inr ⟨q.1, by omega⟩
    · have c : 48 ≤ v.toInt := c_nlt c
      rcases ifc q with ⟨d, q⟩ | ⟨d, q⟩
      · have d : v.toInt ≤ 57 := c_le d
        exact Or.inl ⟨k1 q, by omega⟩
      · have d : 57 < v.toInt := c_nle d
        rcases h3 q with q | q
        · exact Or.inl ⟨q.1, by omega⟩
        · exact Or.inr ⟨q.1, by omega⟩
  have h1 : fTx_isNameSign_12 v = some r → (r = 1 ∧ ((65 ≤ v.toInt ∧ v.toInt ≤ 90) ∨ (48 ≤ v.toInt ∧ v.toInt ≤ 57) ∨ v.toInt = 95)) ∨ (r = 0 ∧ ¬ ((65 ≤ v.toInt ∧ v.toInt ≤ 90) ∨ (48 ≤ v.toInt ∧ v.toInt ≤ 57) ∨ v.toInt = 95)) := fun q => by
    rcases ifc (show (if v < (65 : Int32) then fTx_isNameSign_24 v else (if v ≤ (90 : Int32) then fTx_isNameSign_42 else fTx_isNameSign_24 v)) = some r from q) with ⟨c, q⟩ | ⟨c, q⟩
    · have c : v.toInt < 65 := c_lt c
      rcases h2 q with q | q
      · exact Or.inl ⟨q.1, by omega⟩
      · exact Or.inr ⟨q.1, by omega⟩
    · have c : 65 ≤ v.toInt := c_nlt c
      rcases ifc q with ⟨d, q⟩ | ⟨d, q⟩
      · have d : v.toInt ≤ 90 := c_le d
        exact Or.inl ⟨k1 q, by omega⟩
      · have d : 90 < v.toInt := c_nle d
        rcases h2 q with q | q
        · exact Or.inl ⟨q.1, by omega⟩
        · exact Or.inr ⟨q.1, by omega⟩
  rcases ifc (show (if v < (97 : Int32) then fTx_isNameSign_12 v else (if v ≤ (122 : Int32) then fTx_isNameSign_42 else fTx_isNameSign_12 v)) = some r from h) with ⟨c, q⟩ | ⟨c, q⟩
  · have c : v.toInt < 97 := c_lt c
    rcases h1 q with q | q
    · exact Or.inl ⟨q.1, by omega⟩
    · exact Or.inr ⟨q.1, by omega⟩
  · have c : 97 ≤ v.toInt := c_nlt c
    rcases ifc q with ⟨d, q⟩ | ⟨d, q⟩
    · have d : v.toInt ≤ 122 := c_le d
      exact Or.inl ⟨k1 q, by omega⟩
    · have d : 122 < v.toInt := c_nle d
      rcases h1 q with q | q
      · exact Or.inl ⟨q.1, by omega⟩
      · exact Or.inr ⟨q.1, by omega⟩
def dOk (sg : Nat → Int32) (f m : Nat) : Prop := ∀ k : Nat, k < m → 48 ≤ (sg (f + k)).toInt ∧ (sg (f + k)).toInt ≤ 57
def dv (sg : Nat → Int32) (f : Nat) : Nat → Int
  | 0 => 0
  | m + 1 => 10 * dv sg f m + (sg (f + m)).toInt - 48
theorem t10 : ∀ k : Nat, k < 8 → (10 : Int) ^ k ≤ 10 ^ 7 := by decide
theorem dv_b {sg : Nat → Int32} {f : Nat} : ∀ {m : Nat}, dOk sg f m → 0 ≤ dv sg f m ∧ dv sg f m < 10 ^ m
  | 0, _ => ⟨(by show (0 : Int) ≤ 0; decide), (by show (0 : Int) < 10 ^ 0; decide)⟩
  | m + 1, h => by
    have q := dv_b (m := m) (fun k hk => h k (by omega))
    have z := h m (by omega)
    show 0 ≤ 10 * dv sg f m + (sg (f + m)).toInt - 48 ∧ 10 * dv sg f m + (sg (f + m)).toInt - 48 < 10 ^ (m + 1)
    rw [Int.pow_succ]
    omega
def Dg (sg : Nat → Int32) (f t most r : Int) : Prop := (t - f ≤ most ∧ dOk sg f.toNat (t - f).toNat ∧ r = dv sg f.toNat (t - f).toNat) ∨ (¬ (t - f ≤ most ∧ dOk sg f.toNat (t - f).toNat) ∧ r = -1)
theorem digits_go : ∀ (fuel : Nat) (v1 v3 v4 : Int32) (o : cf_O) (r : Int32), okO I_Tx o → (o.2.1 2 v1.toNatClampNeg).toInt - (o.2.1 1 v1.toNatClampNeg).toInt ≤ 8 → 0 ≤ v4.toInt → v4.toInt ≤ 8 → v4.toInt ≤ (o.2.1 2 v1.toNatClampNeg).toInt - (o.2.1 1 v1.toNatClampNeg).toInt → dOk (o.2.1 0) (o.2.1 1 v1.toNatClampNeg).toInt.toNat v4.toInt.toNat → v3.toInt = dv (o.2.1 0) (o.2.1 1 v1.toNatClampNeg).toInt.toNat v4.toInt.toNat → gTx_digits fuel 0 v1 v3 v4 o = some r → (dOk (o.2.1 0) (o.2.1 1 v1.toNatClampNeg).toInt.toNat ((o.2.1 2 v1.toNatClampNeg).toInt - (o.2.1 1 v1.toNatClampNeg).toInt).toNat ∧ r.toInt = dv (o.2.1 0) (o.2.1 1 v1.toNatClampNeg).toInt.toNat ((o.2.1 2 v1.toNatClampNeg).toInt - (o.2.1 1 v1.toNatClampNeg).toInt).toNat) ∨ (¬ dOk (o.2.1 0) (o.2.1 1 v1.toNatClampNeg).toInt.toNat ((o.2.1 2 v1.toNatClampNeg).toInt - (o.2.1 1 v1.toNatClampNeg).toInt).toNat ∧ r.toInt = -1)
  | 0, v1, v3, v4, o, r, ho, hl, h0, h8, h1, hd, hv, h => by cases h
  | fuel + 1, v1, v3, v4, o, r, ho, hl, h0, h8, h1, hd, hv, h => by
    have b1 : (0 : Int) ≤ (o.2.1 1 v1.toNatClampNeg).toInt ∧ (o.2.1 1 v1.toNatClampNeg).toInt ≤ 1600 := by have z := ho.2 1 v1.toNatClampNeg; exact ⟨z.1, Int.le_trans z.2 (by decide)⟩
    have b2 : (0 : Int) ≤ (o.2.1 2 v1.toNatClampNeg).toInt ∧ (o.2.1 2 v1.toNatClampNeg).toInt ≤ 1600 := by have z := ho.2 2 v1.toNatClampNeg; exact ⟨z.1, Int.le_trans z.2 (by decide)⟩
    obtain ⟨q, hq, h⟩ := bd (show Option.bind (fTx_length v1 o) (fun q_1 => (if q_1 ≤ v4 then some v3 else Option.bind (fTx_signOf v1 v4 o) (fun q_5 => (if q_5 < (48 : Int32) then some (-1) else (if q_5 ≤ (57 : Int32) then gTx_digits fuel 0 v1 (10 * v3 + q_5 - 48) (v4 + 1) o else some (-1)))))) = some r from h)
    have eq := length_sp hq
    have es : q.toInt = (o.2.1 2 v1.toNatClampNeg).toInt - (o.2.1 1 v1.toNatClampNeg).toInt := by rw [eq]; exact i_sub' b2.1 b2.2 b1.1 b1.2
    rcases ifc h with ⟨c, h⟩ | ⟨c, h⟩
    · have c : q.toInt ≤ v4.toInt := c_le c
      have e4 : (o.2.1 2 v1.toNatClampNeg).toInt - (o.2.1 1 v1.toNatClampNeg).toInt = v4.toInt := by omega
      rw [e4]
      exact Or.inl ⟨hd, by rw [← hv, Option.some.inj h]⟩
    · have c : v4.toInt < q.toInt := c_nle c
      obtain ⟨x, hx, h⟩ := bd h
      have pl := pl_k (f := o.2.1 1 v1.toNatClampNeg) (k := v4) b1.1 b1.2 h0 (by omega)
      have ex : x = o.2.1 0 ((o.2.1 1 v1.toNatClampNeg).toInt.toNat + v4.toInt.toNat) := by rw [signOf_sp hx, pl]
      have no : ¬ (48 ≤ x.toInt ∧ x.toInt ≤ 57) → ¬ dOk (o.2.1 0) (o.2.1 1 v1.toNatClampNeg).toInt.toNat ((o.2.1 2 v1.toNatClampNeg).toInt - (o.2.1 1 v1.toNatClampNeg).toInt).toNat := fun n z => n (by rw [ex]; exact z _ (by omega))
      rcases ifc h with ⟨d, h⟩ | ⟨d, h⟩
      · have d : x.toInt < 48 := c_lt d
        exact Or.inr ⟨no (by omega), by rw [← Option.some.inj h]; rfl⟩
      · have d : 48 ≤ x.toInt := c_nlt d
        rcases ifc h with ⟨e, h⟩ | ⟨e, h⟩
        · have e : x.toInt ≤ 57 := c_le e
          have bv := dv_b hd
          have b8 : dv (o.2.1 0) (o.2.1 1 v1.toNatClampNeg).toInt.toNat v4.toInt.toNat < 10 ^ 7 := Int.lt_of_lt_of_le bv.2 (t10 _ (by omega))
          have b7 : (10 : Int) ^ 7 = 10000000 := by decide
          have e10 : (10 * v3).toInt = 10 * v3.toInt := by rw [Int32.toInt_mul, i_bm (by rw [show (10 : Int32).toInt = 10 from rfl]; omega) (by rw [show (10 : Int32).toInt = 10 from rfl]; omega)]; rfl
          have e11 : (10 * v3 + x).toInt = 10 * v3.toInt + x.toInt := by rw [Int32.toInt_add, e10, i_bm (by omega) (by omega)]
          have e12 : (10 * v3 + x - 48).toInt = 10 * v3.toInt + x.toInt - 48 := by rw [Int32.toInt_sub, e11, i_bm (by rw [show (48 : Int32).toInt = 48 from rfl]; omega) (by rw [show (48 : Int32).toInt = 48 from rfl]; omega)]; rfl
          have e4 : (v4 + 1).toInt = v4.toInt + 1 := by rw [i_add' h0 (by omega) (by decide) (by decide)]; rfl
          refine digits_go fuel v1 (10 * v3 + x - 48) (v4 + 1) o r ho hl (by omega) (by omega) (by omega) ?_ ?_ h
          · rw [e4, show (v4.toInt + 1).toNat = v4.toInt.toNat + 1 from by omega]
            intro k hk
            by_cases ek : k = v4.toInt.toNat
            · rw [ek, ← ex]; exact ⟨d, e⟩
            · exact hd k (by omega)
          · rw [e12, e4, show (v4.toInt + 1).toNat = v4.toInt.toNat + 1 from by omega]
            show _ = 10 * dv (o.2.1 0) (o.2.1 1 v1.toNatClampNeg).toInt.toNat v4.toInt.toNat + (o.2.1 0 ((o.2.1 1 v1.toNatClampNeg).toInt.toNat + v4.toInt.toNat)).toInt - 48
            rw [← hv, ← ex]
        · have e : 57 < x.toInt := c_nle e
          exact Or.inr ⟨no (by omega), by rw [← Option.some.inj h]; rfl⟩
theorem digits_sp {v1 v2 r : Int32} {o : cf_O} (ho : okO I_Tx o) (hm : v2.toInt ≤ 8) (hp : (o.2.1 1 v1.toNatClampNeg).toInt ≤ (o.2.1 2 v1.toNatClampNeg).toInt) (h : fTx_digits v1 v2 o = some r) : Dg (o.2.1 0) (o.2.1 1 v1.toNatClampNeg).toInt (o.2.1 2 v1.toNatClampNeg).toInt v2.toInt r.toInt := by
  have b1 : (0 : Int) ≤ (o.2.1 1 v1.toNatClampNeg).toInt ∧ (o.2.1 1 v1.toNatClampNeg).toInt ≤ 1600 := by have z := ho.2 1 v1.toNatClampNeg; exact ⟨z.1, Int.le_trans z.2 (by decide)⟩
  have b2 : (0 : Int) ≤ (o.2.1 2 v1.toNatClampNeg).toInt ∧ (o.2.1 2 v1.toNatClampNeg).toInt ≤ 1600 := by have z := ho.2 2 v1.toNatClampNeg; exact ⟨z.1, Int.le_trans z.2 (by decide)⟩
  obtain ⟨q, hq, h⟩ := bd (show Option.bind (fTx_length v1 o) (fun q_1 => if q_1 ≤ v2 then gTx_digits cfFU 0 v1 0 0 o else some (-1)) = some r from h)
  have eq := length_sp hq
  have es : q.toInt = (o.2.1 2 v1.toNatClampNeg).toInt - (o.2.1 1 v1.toNatClampNeg).toInt := by rw [eq]; exact i_sub' b2.1 b2.2 b1.1 b1.2
  rcases ifc h with ⟨c, h⟩ | ⟨c, h⟩
  · have c : q.toInt ≤ v2.toInt := c_le c
    rcases digits_go cfFU v1 0 0 o r ho (by omega) (by decide) (by decide) (by rw [show (0 : Int32).toInt = 0 from rfl]; omega) (fun k hk => absurd hk (by rw [show (0 : Int32).toInt = 0 from rfl]; exact Nat.not_lt_zero _)) rfl h with z | z
    · exact Or.inl ⟨by omega, z.1, z.2⟩
    · exact Or.inr ⟨fun w => z.1 w.2, z.2⟩
  · have c : v2.toInt < q.toInt := c_nle c
    exact Or.inr ⟨fun w => by omega, by rw [← Option.some.inj h]; rfl⟩
def Nm (sg : Nat → Int32) (f t : Int) : Prop := t - f ≤ 8 ∧ ∀ k : Nat, (k : Int) < t - f → nCh (sg (f.toNat + k)).toInt
def pk (sg : Nat → Int32) (f : Nat) : Nat → Nat
  | 0 => 0
  | m + 1 => pk sg f m * 256 + (sg (f + m)).toInt.toNat
theorem nCh_b {x : Int} (h : nCh x) : 48 ≤ x ∧ x ≤ 122 := by unfold nCh at h; omega
theorem pk_b {sg : Nat → Int32} {f : Nat} : ∀ {m : Nat}, (∀ k : Nat, k < m → nCh (sg (f + k)).toInt) → pk sg f m < 256 ^ m
  | 0, _ => by show 0 < 256 ^ 0; decide
  | m + 1, h => by
    have q := pk_b (m := m) (fun k hk => h k (by omega))
    have z := nCh_b (h m (by omega))
    show pk sg f m * 256 + (sg (f + m)).toInt.toNat < 256 ^ (m + 1)
    rw [Nat.pow_succ]
    omega
theorem sh8n : (((8 : Int32).toInt64 &&& 63).toBitVec.smod 64).toNat = 8 := by decide +kernel
theorem name_go : ∀ (fuel : Nat) (v1 : Int32) (v2 : Int64) (v4 : Int32) (o : cf_O) (r : Int64), okO I_Tx o → (o.2.1 2 v1.toNatClampNeg).toInt - (o.2.1 1 v1.toNatClampNeg).toInt ≤ 8 → 0 ≤ v4.toInt → v4.toInt ≤ (o.2.1 2 v1.toNatClampNeg).toInt - (o.2.1 1 v1.toNatClampNeg).toInt → (∀ k : Nat, (k : Int) < v4.toInt → nCh (o.2.1 0 ((o.2.1 1 v1.toNatClampNeg).toInt.toNat + k)).toInt) → nv v2 = pk (o.2.1 0) (o.2.1 1 v1.toNatClampNeg).toInt.toNat v4.toInt.toNat → gTx_name fuel 0 v1 v2 v4 o = some r → (Nm (o.2.1 0) (o.2.1 1 v1.toNatClampNeg).toInt (o.2.1 2 v1.toNatClampNeg).toInt ∧ nv r = pk (o.2.1 0) (o.2.1 1 v1.toNatClampNeg).toInt.toNat ((o.2.1 2 v1.toNatClampNeg).toInt - (o.2.1 1 v1.toNatClampNeg).toInt).toNat) ∨ (¬ Nm (o.2.1 0) (o.2.1 1 v1.toNatClampNeg).toInt (o.2.1 2 v1.toNatClampNeg).toInt ∧ r = 0)
  | 0, v1, v2, v4, o, r, ho, hl, h0, h1, hd, hv, h => by cases h
  | fuel + 1, v1, v2, v4, o, r, ho, hl, h0, h1, hd, hv, h => by
    have b1 : (0 : Int) ≤ (o.2.1 1 v1.toNatClampNeg).toInt ∧ (o.2.1 1 v1.toNatClampNeg).toInt ≤ 1600 := by have z := ho.2 1 v1.toNatClampNeg; exact ⟨z.1, Int.le_trans z.2 (by decide)⟩
    have b2 : (0 : Int) ≤ (o.2.1 2 v1.toNatClampNeg).toInt ∧ (o.2.1 2 v1.toNatClampNeg).toInt ≤ 1600 := by have z := ho.2 2 v1.toNatClampNeg; exact ⟨z.1, Int.le_trans z.2 (by decide)⟩
    obtain ⟨q, hq, h⟩ := bd (show Option.bind (fTx_length v1 o) (fun q_1 => (if q_1 ≤ v4 then some v2 else Option.bind (fTx_signOf v1 v4 o) (fun q_5 => Option.bind (fTx_isNameSign q_5) (fun q_8 => (if q_8 = (0 : Int32) then some (0 : Int64) else gTx_name fuel 0 v1 ((v2 <<< ((8 : Int32).toInt64 &&& 63)) ||| q_5.toInt64) (v4 + 1) o))))) = some r from h)
    have eq := length_sp hq
    have es : q.toInt = (o.2.1 2 v1.toNatClampNeg).toInt - (o.2.1 1 v1.toNatClampNeg).toInt := by rw [eq]; exact i_sub' b2.1 b2.2 b1.1 b1.2
    rcases ifc h with ⟨c, h⟩ | ⟨c, h⟩
    · have c : q.toInt ≤ v4.toInt := c_le c
      have e4 : (o.2.1 2 v1.toNatClampNeg).toInt - (o.2.1 1 v1.toNatClampNeg).toInt = v4.toInt := by omega
      refine Or.inl ⟨⟨hl, fun k hk => hd k (by omega)⟩, ?_⟩
      rw [e4, ← hv, Option.some.inj h]
    · have c : v4.toInt < q.toInt := c_nle c
      obtain ⟨x, hx, h⟩ := bd h
      obtain ⟨y, hy, h⟩ := bd h
      have pl := pl_k (f := o.2.1 1 v1.toNatClampNeg) (k := v4) b1.1 b1.2 h0 (by omega)
      have ex : x = o.2.1 0 ((o.2.1 1 v1.toNatClampNeg).toInt.toNat + v4.toInt.toNat) := by rw [signOf_sp hx, pl]
      rcases ifc h with ⟨d, h⟩ | ⟨d, h⟩
      · rcases nameSign_sp hy with z | z
        · rw [z.1] at d; cases d
        · exact Or.inr ⟨fun w => z.2 (by rw [ex]; exact w.2 _ (by omega)), (Option.some.inj h).symm⟩
      · rcases nameSign_sp hy with z | z
        · have xb := nCh_b z.2
          have pb := pk_b (sg := o.2.1 0) (f := (o.2.1 1 v1.toNatClampNeg).toInt.toNat) (m := v4.toInt.toNat) (fun k hk => hd k (by omega))
          have p7 : pk (o.2.1 0) (o.2.1 1 v1.toNatClampNeg).toInt.toNat v4.toInt.toNat < 256 ^ 7 := Nat.lt_of_lt_of_le pb (Nat.pow_le_pow_right (by decide) (by omega))
          have e4 : (v4 + 1).toInt = v4.toInt + 1 := by rw [i_add' h0 (by omega) (by decide) (by decide)]; rfl
          refine name_go fuel v1 _ (v4 + 1) o r ho hl (by omega) (by omega) (fun k hk => ?_) ?_ h
          · by_cases ek : (k : Int) = v4.toInt
            · rw [show k = v4.toInt.toNat from by omega, ← ex]; exact z.2
            · exact hd k (by omega)
          · rw [nv_or, nv_shl sh8n, nv_32 (by omega), hv, e4, show (v4.toInt + 1).toNat = v4.toInt.toNat + 1 from by omega]
            show _ = pk (o.2.1 0) (o.2.1 1 v1.toNatClampNeg).toInt.toNat v4.toInt.toNat * 256 + (o.2.1 0 ((o.2.1 1 v1.toNatClampNeg).toInt.toNat + v4.toInt.toNat)).toInt.toNat
            have p8 : (256 : Nat) ^ 7 * 256 = 2 ^ 64 := by decide
            rw [← ex, Nat.mod_eq_of_lt (by rw [show (2 : Nat) ^ 8 = 256 from by decide]; omega), Nat.or_comm, show (2 : Nat) ^ 8 = 256 ^ 1 from by decide, or_add (k := 1) (by rw [show (256 : Nat) ^ 1 = 256 from by decide]; omega)]
            rw [show (256 : Nat) ^ 1 = 256 from by decide]; omega
        · exact absurd z.1 d
theorem name_sp {v1 : Int32} {r : Int64} {o : cf_O} (ho : okO I_Tx o) (hp : (o.2.1 1 v1.toNatClampNeg).toInt ≤ (o.2.1 2 v1.toNatClampNeg).toInt) (h : fTx_name v1 o = some r) : (Nm (o.2.1 0) (o.2.1 1 v1.toNatClampNeg).toInt (o.2.1 2 v1.toNatClampNeg).toInt ∧ nv r = pk (o.2.1 0) (o.2.1 1 v1.toNatClampNeg).toInt.toNat ((o.2.1 2 v1.toNatClampNeg).toInt - (o.2.1 1 v1.toNatClampNeg).toInt).toNat) ∨ (¬ Nm (o.2.1 0) (o.2.1 1 v1.toNatClampNeg).toInt (o.2.1 2 v1.toNatClampNeg).toInt ∧ r = 0) := by
  have b1 : (0 : Int) ≤ (o.2.1 1 v1.toNatClampNeg).toInt ∧ (o.2.1 1 v1.toNatClampNeg).toInt ≤ 1600 := by have z := ho.2 1 v1.toNatClampNeg; exact ⟨z.1, Int.le_trans z.2 (by decide)⟩
  have b2 : (0 : Int) ≤ (o.2.1 2 v1.toNatClampNeg).toInt ∧ (o.2.1 2 v1.toNatClampNeg).toInt ≤ 1600 := by have z := ho.2 2 v1.toNatClampNeg; exact ⟨z.1, Int.le_trans z.2 (by decide)⟩
  obtain ⟨q, hq, h⟩ := bd (show Option.bind (fTx_length v1 o) (fun q_1 => if q_1 ≤ (8 : Int32) then gTx_name cfFU 0 v1 0 0 o else some (0 : Int64)) = some r from h)
  have eq := length_sp hq
  have es : q.toInt = (o.2.1 2 v1.toNatClampNeg).toInt - (o.2.1 1 v1.toNatClampNeg).toInt := by rw [eq]; exact i_sub' b2.1 b2.2 b1.1 b1.2
  rcases ifc h with ⟨c, h⟩ | ⟨c, h⟩
  · have c : q.toInt ≤ 8 := c_le c
    exact name_go cfFU v1 0 0 o r ho (by omega) (by decide) (by rw [show (0 : Int32).toInt = 0 from rfl]; omega) (fun k hk => absurd hk (by rw [show (0 : Int32).toInt = 0 from rfl]; omega)) rfl h
  · have c : 8 < q.toInt := c_nle c
    exact Or.inr ⟨fun w => by have := w.1; omega, (Option.some.inj h).symm⟩
def bOk (sg : Nat → Int32) (f m : Nat) : Prop := ∀ k : Nat, k < m → (sg (f + k)).toInt = 48 ∨ (sg (f + k)).toInt = 49
def bvl (sg : Nat → Int32) (f : Nat) : Nat → Nat
  | 0 => 0
  | m + 1 => bvl sg f m + ((sg (f + m)).toInt - 48).toNat * 2 ^ m
theorem bvl_b {sg : Nat → Int32} {f : Nat} : ∀ {m : Nat}, bOk sg f m → bvl sg f m < 2 ^ m
  | 0, _ => by show 0 < 2 ^ 0; decide
  | m + 1, h => by
    have q := bvl_b (m := m) (fun k hk => h k (by omega))
    show bvl sg f m + ((sg (f + m)).toInt - 48).toNat * 2 ^ m < 2 ^ (m + 1)
    rw [Nat.pow_succ]
    rcases h m (by omega) with z | z <;> rw [z]
    · simp only [show ((48 : Int) - 48).toNat = 0 from rfl]; omega
    · simp only [show ((49 : Int) - 48).toNat = 1 from rfl]; omega
theorem sb1q : ∀ j : Nat, j < 8 → ((1 : Int32) <<< (Int32.ofNat j &&& 31)).toInt = 2 ^ j := by decide +kernel
theorem sb0q : ∀ j : Nat, j < 8 → (0 : Int32) <<< (Int32.ofNat j &&& 31) = 0 := by decide +kernel
theorem or_lo : ∀ j : Nat, j < 8 → ∀ a : Nat, a < 2 ^ j → (Int32.ofNat a ||| Int32.ofNat (2 ^ j)).toInt = (a : Int) + 2 ^ j := by decide +kernel
theorem of_i {x : Int32} (h : 0 ≤ x.toInt) : x = Int32.ofNat x.toInt.toNat := by
  apply Int32.toInt_inj.mp
  have := Int32.toInt_lt x
  rw [Int32.toInt_ofNat_of_lt (by omega)]; omega
theorem bit_s {v d k : Int32} {m a : Nat} (ev : v.toInt = (a : Int)) (ha : a < 2 ^ m) (hm : m < 8) (ek : k.toInt = (m : Int)) (hd : d.toInt = 0 ∨ d.toInt = 1) : (v ||| (d <<< (k &&& 31))).toInt = ((a + d.toInt.toNat * 2 ^ m : Nat) : Int) := by
  have e1 : k = Int32.ofNat m := by rw [of_i (x := k) (by omega), ek]; rfl
  have e2 : v = Int32.ofNat a := by rw [of_i (x := v) (by omega), ev]; rfl
  rcases hd with hd | hd
  · have e3 : d = 0 := Int32.toInt_inj.mp hd
    subst e3
    rw [e1, sb0q m hm, show ((0 : Int32)).toInt.toNat = 0 from rfl, Nat.zero_mul, Nat.add_zero, ← ev]
    congr 1; apply Int32.toBitVec_inj.mp; simp
  · have e3 : d = 1 := Int32.toInt_inj.mp hd
    subst e3
    have e4 : (1 : Int32) <<< (k &&& 31) = Int32.ofNat (2 ^ m) := by
      apply Int32.toInt_inj.mp
      have p7 : (2 : Nat) ^ m < 2 ^ 8 := Nat.pow_lt_pow_right (by decide) hm
      rw [e1, sb1q m hm, Int32.toInt_ofNat_of_lt (by omega)]; exact (Int.natCast_pow 2 m).symm
    rw [e4, e2, or_lo m hm a ha, show ((1 : Int32)).toInt.toNat = 1 from rfl, Nat.one_mul]
    push_cast; rfl
