def MkE (x : Int32) (f : Nat → Bool) : Prop := ∀ q : Nat, q < 32 → bt x q = (decide (q < 8) && f q)
theorem bt_xr {x y : Int32} {u : Nat} : bt (x ^^^ y) u = (bt x u ^^ bt y u) := by unfold bt; rw [Int32.toBitVec_xor, BitVec.toNat_xor, Nat.testBit_xor]
theorem bt_255 : ∀ q : Nat, q < 32 → bt (255 : Int32) q = decide (q < 8) := by decide +kernel
theorem mk_170 : ∀ q : Nat, q < 32 → bt (170 : Int32) q = (decide (q < 8) && q.testBit 0) := by decide +kernel
theorem mk_204 : ∀ q : Nat, q < 32 → bt (204 : Int32) q = (decide (q < 8) && q.testBit 1) := by decide +kernel
theorem mk_240 : ∀ q : Nat, q < 32 → bt (240 : Int32) q = (decide (q < 8) && q.testBit 2) := by decide +kernel
theorem MkE_0 : MkE 0 (fun _ => false) := fun q hq => by rw [bt_0, Bool.and_false]
theorem MkE_a {x y : Int32} {f g : Nat → Bool} (h1 : MkE x f) (h2 : MkE y g) : MkE (x &&& y) (fun q => f q && g q) := fun q hq => by
  rw [bt_and, h1 q hq, h2 q hq]
  show _ = (decide (q < 8) && (f q && g q))
  cases decide (q < 8) <;> cases f q <;> cases g q <;> rfl
theorem MkE_n {x : Int32} {f : Nat → Bool} (h : MkE x f) : 0 ≤ x.toInt ∧ x.toInt ≤ 255 := by
  have z : ∀ q : Nat, 8 ≤ q → x.toBitVec.toNat.testBit q = false := fun q hq => by
    by_cases l : q < 32
    · have := h q l
      rw [decide_eq_false (show ¬ q < 8 by omega), Bool.false_and] at this
      exact this
    · exact Nat.testBit_lt_two_pow (Nat.lt_of_lt_of_le x.toBitVec.isLt (Nat.pow_le_pow_right (by decide) (by omega)))
  have l : x.toBitVec.toNat < 2 ^ 8 := Nat.lt_pow_two_of_testBit _ (fun q hq => z q hq)
  have e : x.toInt = (x.toBitVec.toNat : Int) := by
    show x.toBitVec.toInt = _
    rw [BitVec.toInt_eq_toNat_of_lt (by omega)]
  omega
theorem MkE_l {x s : Int32} {l : Int32} {f : Nat → Bool} (h : MkE x f) (hs : (od l = true ∧ s = 255) ∨ (od l = false ∧ s = 0)) : MkE (x ^^^ s) (fun q => f q ^^ od l) := fun q hq => by
  rw [bt_xr, h q hq]
  show _ = (decide (q < 8) && (f q ^^ od l))
  rcases hs with ⟨a, c⟩ | ⟨a, c⟩
  · rw [a, c, bt_255 q hq]
    cases decide (q < 8) <;> cases f q <;> rfl
  · rw [a, c, bt_0]
    cases decide (q < 8) <;> cases f q <;> rfl
theorem od_1 {x : Int32} (h0 : 0 ≤ x.toInt) : (x - x / 2 * 2 = 1 ↔ od x = true) := by
  unfold od
  constructor
  · intro a
    have a := c_eq a
    rw [md2_i h0, show (1 : Int32).toInt = 1 from rfl] at a
    exact decide_eq_true a
  · intro a
    have a := of_decide_eq_true a
    exact Int32.toInt_inj.mp (by rw [md2_i h0]; exact a)
theorem od_255 {x : Int32} (h0 : 0 ≤ x.toInt) (a : x - x / 2 * 2 = 1) : (od x = true ∧ (255 : Int32) = 255) ∨ (od x = false ∧ (255 : Int32) = 0) := Or.inl ⟨(od_1 h0).mp a, rfl⟩
theorem od_000 {x : Int32} (h0 : 0 ≤ x.toInt) (a : ¬ x - x / 2 * 2 = 1) : (od x = true ∧ (0 : Int32) = 255) ∨ (od x = false ∧ (0 : Int32) = 0) := Or.inr ⟨by cases z : od x with
  | true => exact absurd ((od_1 h0).mpr z) a
  | false => rfl, rfl⟩
theorem mska_go {b n g c : Nat} {C : List Int} {W : Nat → Nat → Bool} {gr OM : cf_O} {v1 v2 : Int32} (G : GW b n gr) (R0 : RGq b n gr OM) (hV : CVq b n gr C W) (hg : g < b + n) (e1 : v1.toInt = (g : Int)) (e2 : v2.toInt = (c : Int)) (hC : CtM c C OM) (h3 : C.length ≤ 3) : ∀ fu : Nat,
    (∀ (m : Nat) (v3 w : Int32) (om r : cf_O), v3.toInt = (m : Int) → m ≤ g + 1 → Fr (fr_M [] [91] []) OM om → (∀ k : Nat, k < m → MkE (om.2.1 91 k) (W k)) → gM_maskAll fu 0 v1 v2 v3 w om = some r → ∀ k : Nat, k ≤ g → MkE (r.2.1 91 k) (W k)) ∧
    (∀ (m t : Nat) (x : Nat → Bool) (v3 v4 : Int32) (om r : cf_O), v3.toInt = (m : Int) → m ≤ g → v4.toInt = (t : Int) → t ≤ C.length → Fr (fr_M [] [91] []) OM om → (∀ k : Nat, k < m → MkE (om.2.1 91 k) (W k)) → MkE (om.2.1 91 m) x → (x = W m ∨ ∃ j : Nat, t ≤ j ∧ C[j]? = some (m : Int)) → gM_maskAll fu 1 v1 v2 v3 v4 om = some r → ∀ k : Nat, k ≤ g → MkE (r.2.1 91 k) (W k))
  | 0 => ⟨fun _ _ _ _ _ _ _ _ _ h => (by cases h), fun _ _ _ _ _ _ _ _ _ _ _ _ _ _ _ h => (by cases h)⟩
  | fu + 1 => by
    obtain ⟨i0, i1⟩ := mska_go G R0 hV hg e1 e2 hC h3 fu
    have G0 := G.1
    have cR : ∀ om : cf_O, Fr (fr_M [] [91] []) OM om → RGq b n gr om := fun om fo => RGq_f R0 (fo.1 39 rfl) (fo.1 40 rfl) (fo.1 43 rfl) (fo.2.1 44 rfl) (fo.2.1 45 rfl) (fo.2.1 46 rfl) (fo.2.1 47 rfl)
    refine ⟨?_, ?_⟩
    · intro m v3 w om r e3 mg fo H h
      have h : fM_maskAll_2 (gM_maskAll fu) v1 v2 v3 om = some r := h
      unfold fM_maskAll_2 at h
      rcases ifc h with ⟨a, h⟩ | ⟨a, h⟩
      · have a := Int32.lt_iff_toInt_lt.mp a
        rw [← Option.some.inj h]
        exact fun k hk => H k (by omega)
      · have a : ¬ v1.toInt < v3.toInt := fun q => a (Int32.lt_iff_toInt_lt.mpr q)
        have h := (ifn h).2
        rw [opk, tW e3] at h
        have fo1 : Fr (fr_M [] [91] []) OM (xp om 91 m 0) := fr_xp fo rfl
        have H1 : ∀ k : Nat, k < m → MkE ((xp om 91 m 0).2.1 91 k) (W k) := fun k hk => by
          show MkE (upd (om.2.1 91) m 0 k) _
          rw [up_o (by omega)]; exact H k hk
        have R1 := cR _ fo1
        have inC : ∀ x : Nat → Bool, (¬ (m : Int) ∈ C → x = W m) → (x = W m ∨ ∃ j : Nat, 0 ≤ j ∧ C[j]? = some (m : Int)) := fun x q => by
          by_cases mC : (m : Int) ∈ C
          · obtain ⟨j, hj⟩ := List.mem_iff_getElem?.mp mC
            exact Or.inr ⟨j, Nat.zero_le j, hj⟩
          · exact Or.inl (q mC)
        obtain ⟨q, hq, h⟩ := bd h
        have eb := base_sp R1 hq
        rcases ifc h with ⟨d, h⟩ | ⟨d, h⟩
        · have d := Int32.lt_iff_toInt_lt.mp d
          unfold fM_maskAll_123 at h
          refine i1 m 0 (fun _ => false) v3 0 _ r e3 (by omega) rfl (Nat.zero_le _) fo1 H1 (by show MkE (upd (om.2.1 91) m 0 m) _; rw [up_s]; exact MkE_0) (inC _ (fun mC => ?_)) h
          funext i
          exact (hV.2.1 m i (by omega) mC).symm
        · have d : ¬ v3.toInt < q.toInt := fun z => d (Int32.lt_iff_toInt_lt.mpr z)
          obtain ⟨g', hg'⟩ : ∃ g' : Nat, m = b + g' := ⟨m - b, by omega⟩
          have gl := R1.2.1 g' (by omega)
          have ch := Gch G (show b ≤ b + g' by omega) (by omega)
          have evq : ∀ y : Int32, fM_base (xp om 91 m 0) = some y → (v3 - y).toInt = (g' : Int) := fun y hy => by
            have eb2 := base_sp R1 hy
            rw [i_sub' (by omega) (by omega) (by omega) (by omega)]; omega
          have wm : ¬ (m : Int) ∈ C → (fun q => (W ((gr.2.1 4 (b + g')).toInt.toNat / 2) q ^^ od (gr.2.1 4 (b + g'))) && (W ((gr.2.1 5 (b + g')).toInt.toNat / 2) q ^^ od (gr.2.1 5 (b + g')))) = W m := fun mC => by
            funext i
            rw [hg'] at mC
            rw [hg']; exact (hV.2.2 g' i (by omega) mC).symm
          obtain ⟨q2, hq2, h⟩ := bd h
          rw [opk, tW (evq _ hq2)] at h
          have h := (ifn h).2
          rw [opk, gl.1, opk, hf_i (by omega)] at h
          have h := (ifn h).2
          rw [opk] at h
          have M1 := H1 _ (show (gr.2.1 4 (b + g')).toInt.toNat / 2 < m by omega)
          obtain ⟨q3, hq3, h⟩ := bd h
          rw [opk, tW (evq _ hq3)] at h
          have h := (ifn h).2
          rw [opk, gl.1, opk] at h
          have two : ∀ s : Int32, ((od (gr.2.1 4 (b + g')) = true ∧ s = 255) ∨ (od (gr.2.1 4 (b + g')) = false ∧ s = 0)) → fM_maskAll_64 (gM_maskAll fu) v1 v2 v3 ((xp om 91 m 0).2.1 91 ((gr.2.1 4 (b + g')).toInt.toNat / 2)) s (xp om 91 m 0) = some r → ∀ k : Nat, k ≤ g → MkE (r.2.1 91 k) (W k) := fun s hs z => by
            unfold fM_maskAll_64 at z
            rw [opk] at z
            have X1 := MkE_l M1 hs
            generalize (xp om 91 m 0).2.1 91 ((gr.2.1 4 (b + g')).toInt.toNat / 2) ^^^ s = X at z X1
            obtain ⟨q4, hq4, z⟩ := bd z
            rw [opk, tW (evq _ hq4)] at z
            have z := (ifn z).2
            rw [opk, gl.2, opk, hf_i (by omega)] at z
            have z := (ifn z).2
            rw [opk] at z
            have M2 := H1 _ (show (gr.2.1 5 (b + g')).toInt.toNat / 2 < m by omega)
            obtain ⟨q5, hq5, z⟩ := bd z
            rw [opk, tW (evq _ hq5)] at z
            have z := (ifn z).2
            rw [opk, gl.2, opk] at z
            have fin : ∀ s2 : Int32, ((od (gr.2.1 5 (b + g')) = true ∧ s2 = 255) ∨ (od (gr.2.1 5 (b + g')) = false ∧ s2 = 0)) → fM_maskAll_109 (gM_maskAll fu) v1 v2 v3 X ((xp om 91 m 0).2.1 91 ((gr.2.1 5 (b + g')).toInt.toNat / 2)) s2 (xp om 91 m 0) = some r → ∀ k : Nat, k ≤ g → MkE (r.2.1 91 k) (W k) := fun s2 hs2 y => by
              unfold fM_maskAll_109 at y
              rw [opk, opk] at y
              have X2 := MkE_a X1 (MkE_l M2 hs2)
              generalize X &&& ((xp om 91 m 0).2.1 91 ((gr.2.1 5 (b + g')).toInt.toNat / 2) ^^^ s2) = Y at y X2
              have y := (ifn y).2
              rw [opk, tW e3] at y
              unfold fM_maskAll_123 at y
              refine i1 m 0 _ v3 0 _ r e3 (by omega) rfl (Nat.zero_le _) (fr_xp fo1 rfl) (fun k hk => ?_) ?_ (inC _ wm) y
              · show MkE (upd (upd (om.2.1 91) m 0) m Y k) _
                rw [up_o (by omega)]; exact H1 k hk
              · show MkE (upd (upd (om.2.1 91) m 0) m Y m) _
                rw [up_s]; exact X2
            rcases ifc z with ⟨p, z⟩ | ⟨p, z⟩
            · exact fin 255 (od_255 (by omega) p) z
            · exact fin 0 (od_000 (by omega) p) z
          rcases ifc h with ⟨p, h⟩ | ⟨p, h⟩
          · exact two 255 (od_255 (by omega) p) h
          · exact two 0 (od_000 (by omega) p) h
    · intro m t x v3 v4 om r e3 mg e4 tl fo H hm hx h
      have h : fM_maskAll_126 (gM_maskAll fu) v1 v2 v3 v4 om = some r := h
      unfold fM_maskAll_126 at h
      have hC1 : CtM c C om := CtM_f hC (fo.2.1 59 rfl) (fo.2.1 58 rfl)
      have h := (ifn h).2
      rw [opk, tW e2] at h
      have ctt := fun z => CtM_g (t := t) hC1 z
      obtain ⟨c1, c2, c3, c4⟩ := hC1
      rcases ifc h with ⟨a, h⟩ | ⟨a, h⟩
      · have a := c_le a
        rw [opk] at h
        refine i0 (m + 1) (v3 + 1) 0 om r (by rw [pW (by omega) (by omega)]; omega) (by omega) fo (fun k hk => ?_) h
        by_cases ek : k = m
        · rw [ek]
          rcases hx with q | ⟨j, q1, q2⟩
          · rw [← q]; exact hm
          · have := (List.getElem?_eq_some_iff.mp q2).1
            omega
        · exact H k (by omega)
      · have a := c_nle a
        have ct := ctt (by omega)
        rw [opk, opk, ix5 e2 e4 c1 (by omega)] at h
        have h := (ifn h).2
        rw [opk] at h
        have p4 := pW (v := v4) (by omega) (by omega)
        have go : ∀ (s : Int32) (y : Nat → Bool), MkE s y → (y = W m ∨ ∃ j : Nat, t + 1 ≤ j ∧ C[j]? = some (m : Int)) → fM_maskAll_192 (gM_maskAll fu) v1 v2 v3 v4 v3 s om = some r → ∀ k : Nat, k ≤ g → MkE (r.2.1 91 k) (W k) := fun s y es ey z => by
          unfold fM_maskAll_192 at z
          have z := (ifn z).2
          rw [opk, opk, tW e3] at z
          refine i1 m (t + 1) y v3 (v4 + 1) _ r e3 mg (by omega) (by omega) (fr_xp fo rfl) (fun k hk => ?_) ?_ ey z
          · show MkE (upd (om.2.1 91) m s k) _
            rw [up_o (by omega)]; exact H k hk
          · show MkE (upd (om.2.1 91) m s m) _
            rw [up_s]; exact es
        rcases ifc h with ⟨d, h⟩ | ⟨d, h⟩
        · rw [d, e3] at ct
          have wt : ∀ i : Nat, W m i = i.testBit t := fun i => hV.1 t m i ct
          have wf : W m = fun i => i.testBit t := funext wt
          rcases ifc h with ⟨y, h⟩ | ⟨y, h⟩
          · have et : t = 0 := by have := c_eq y; rw [e4] at this; exact Int.ofNat_inj.mp this
            refine go 170 (fun i => i.testBit t) (by rw [et]; exact mk_170) (Or.inl wf.symm) h
          · have nt : ¬ t = 0 := fun q => y (Int32.toInt_inj.mp (by rw [e4, q]; rfl))
            rcases ifc h with ⟨y2, h⟩ | ⟨y2, h⟩
            · have et : t = 1 := by have := c_eq y2; rw [e4] at this; exact Int.ofNat_inj.mp this
              refine go 204 (fun i => i.testBit t) (by rw [et]; exact mk_204) (Or.inl wf.symm) h
            · have nt2 : ¬ t = 1 := fun q => y2 (Int32.toInt_inj.mp (by rw [e4, q]; rfl))
              have et : t = 2 := by omega
              refine go 240 (fun i => i.testBit t) (by rw [et]; exact mk_240) (Or.inl wf.symm) h
        · have h := (ifn h).2
          rw [opk, tW e3] at h
          refine go _ x hm ?_ h
          rcases hx with q | ⟨j, q1, q2⟩
          · exact Or.inl q
          · by_cases ej : j = t
            · rw [ej, ct] at q2
              have := Option.some.inj q2
              exact absurd (Int32.toInt_inj.mp (by rw [this, e3])) d
            · exact Or.inr ⟨j, by omega, q2⟩
theorem maskAll_sp {b n g c : Nat} {C : List Int} {W : Nat → Nat → Bool} {gr om r : cf_O} {v1 v2 : Int32} (G : GW b n gr) (R0 : RGq b n gr om) (hV : CVq b n gr C W) (hg : g < b + n) (e1 : v1.toInt = (g : Int)) (e2 : v2.toInt = (c : Int)) (hC : CtM c C om) (h3 : C.length ≤ 3) (h : fM_maskAll v1 v2 om = some r) : ∀ k : Nat, k ≤ g → MkE (r.2.1 91 k) (W k) := by
  unfold fM_maskAll fM_maskAll_0 at h
  exact (mska_go G R0 hV hg e1 e2 hC h3 cfFU).1 0 0 0 om r rfl (Nat.zero_le _) fr_rfl (fun k hk => absurd hk (by omega)) h
theorem lmask_sp {l q : Int32} {om : cf_O} {x : Nat} {f : Nat → Bool} (el : l.toInt = (x : Int)) (H : MkE (om.2.1 91 (x / 2)) f) (h : fM_literalMask l om = some q) : MkE q (fun i => f i ^^ decide (x % 2 = 1)) := by
  unfold fM_literalMask fM_literalMask_0 at h
  rw [opk, hf_i (by omega)] at h
  have h := (ifn h).2
  rw [opk, opk, el, show ((x : Int)).toNat = x from rfl] at h
  have eo : od l = decide (x % 2 = 1) := by
    unfold od
    rw [el]
    by_cases z : x % 2 = 1
    · rw [decide_eq_true z, decide_eq_true (by omega)]
    · rw [decide_eq_false z, decide_eq_false (by omega)]
  rcases ifc h with ⟨a, h⟩ | ⟨a, h⟩
  · unfold fM_literalMask_22 at h
    rw [opk] at h
    rw [← Option.some.inj h, ← eo]
    exact MkE_l H (od_255 (by omega) a)
  · unfold fM_literalMask_22 at h
    rw [opk] at h
    rw [← Option.some.inj h, ← eo]
    exact MkE_l H (od_000 (by omega) a)
