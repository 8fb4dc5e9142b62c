def RgX (sg : Nat → Int32) (n : Nat) (x : NXq) : Nat → Prop := fun a => Wp (Eg sg n x.2.2.2.1 x.2.2.2.2.1) x.2.2.2.1 a a
def ScR (sg : Nat → Int32) (n : Nat) (r : Int32 × cf_O × cf_O) : Prop := (¬ r.1.toInt = 0 ∧ ∃ x : NXq, NAns sg n r.1.toInt (r.2.1.1 2).toInt x) ∨ (∃ x : NXq, NAns sg n 0 0 x ∧ x.1 = 3 ∧ PNx sg n x ∧ ∃ l3 : Int, U3c sg n x.2.1 x.2.2.1 x.2.2.2.1 x.2.2.2.2.1 x.2.2.2.1 l3 ∧ ((r.1 = 3 ∧ 0 ≤ l3 ∧ (r.2.1.1 2).toInt = l3) ∨ (l3 = -1 ∧ ∃ l4 : Int, R4c (RgX sg n x) x.2.2.2.2.1 x.2.2.2.1 l4 ∧ ((r.1 = 4 ∧ 0 ≤ l4 ∧ (r.2.1.1 2).toInt = l4) ∨ (r.1 = 0 ∧ l4 = -1 ∧ r.2.1.1 2 = -1 ∧ KCx sg n r.2.1 x ∧ (∀ j : Nat, j < x.2.2.2.1 → KGq sg n x.2.1 x.2.2.2.1 x.2.2.2.2.1 (r.2.1.2.1 13) j (nW sg n (x.2.2.2.2.1 j))) ∧ ∀ k : Nat, k + 1 < nW sg n x.2.2.1 → GvR sg n x.2.1 x.2.2.2.1 x.2.2.2.2.1 (keyq sg n x.2.2.1 (k + 1)) (r.2.1.2.1 14 k).toInt)))))
theorem KCx_f {sg : Nat → Int32} {n : Nat} {o r : cf_O} {x : NXq} (K : KCx sg n o x) (f : Fr (fr_M [2] [13, 14, 15] []) o r) : KCx sg n r x := by
  unfold KCx KCi KCo KCt KCr at K ⊢
  rw [f.1 0 rfl, f.1 1 rfl, f.1 5 rfl, f.1 6 rfl, f.2.1 8 rfl, f.2.1 9 rfl, f.2.1 10 rfl, f.2.1 11 rfl, f.2.1 12 rfl, f.2.2 3 rfl, f.2.2 4 rfl, f.2.2 7 rfl]; exact K
theorem NAns_0 {sg : Nat → Int32} {n : Nat} {l : Int} {x : NXq} (h : NAns sg n 0 l x) : NAns sg n 0 0 x := by
  obtain ⟨M, h1, h2, h⟩ := h
  refine ⟨M, h1, h2, ?_⟩
  rcases h with ⟨a, b, _⟩ | h | ⟨_, _, b, _⟩
  · exact absurd b.symm a
  · exact Or.inr (Or.inl h)
  · exact absurd b (by decide)
theorem R4_neg {R : Nat → Prop} {tL : Nat → Nat} {c : Nat} {l : Int} (h : R4c R tL c l) : l = -1 ∨ 0 ≤ l := by
  rcases h with ⟨j, _, _, _, h⟩ | ⟨_, h⟩
  · exact Or.inr (by omega)
  · exact Or.inl h
theorem nscan_sp {o o1 : cf_O} {r : Int32 × cf_O × cf_O} (hn : okO I_Nl o) (ho : okO I_Tx o1) (hw : Rwo (o.2.1 12)) (h : fNl_scan o o1 = some r) : ScR (o1.2.1 0) (o1.1 3).toInt.toNat r := by
  obtain ⟨q, hq, h⟩ := bd h
  have S := scanLines_sp ho hq
  obtain ⟨q', eq', Q⟩ := sNl_scanLines o o1 hn ho hw
  cases eq'.symm.trans hq
  obtain ⟨x, A, B⟩ := S
  rcases ifc h with ⟨a, h⟩ | ⟨a, h⟩
  · have a0 : q.1.toInt = 0 := by rw [a]; rfl
    obtain ⟨K, x3, P⟩ := B a0
    rw [a0] at A
    obtain ⟨u, hu, h⟩ := bd h
    obtain ⟨U, F, V⟩ := lws_sp K P x3 hu
    obtain ⟨u', eu', QU⟩ := sNl_lineWithoutSource q.2.1 Q.2.1
    cases eu'.symm.trans hu
    refine Or.inr ⟨x, NAns_0 A, x3, P, u.1.toInt, U, ?_⟩
    rcases ifc h with ⟨c, h⟩ | ⟨c, h⟩
    · have c : u.1 = -1 := c
      have c1 : u.1.toInt = -1 := by rw [c]; rfl
      obtain ⟨V1, V2⟩ := V (by omega)
      obtain ⟨w, hw, h⟩ := bd h
      have K2 : KCx (o1.2.1 0) (o1.1 3).toInt.toNat (fp u.2 2 u.1) x := KCx_f K (fr_fp (fr_tr fr_rfl F rfl rfl rfl) rfl)
      obtain ⟨W1, W2⟩ := lor_sp (o := fp u.2 2 u.1) (ok_fp QU.2.1 ⟨Int32.le_toInt _, Int32.toInt_le _⟩) ⟨by show (-1 : Int) ≤ u.1.toInt; omega, by show u.1.toInt ≤ -1; omega⟩ K2 P x3 V1 hw
      refine Or.inr ⟨c1, w.1.toInt, W1, ?_⟩
      rcases ifc h with ⟨d, h⟩ | ⟨d, h⟩
      · have d : w.1 = -1 := d
        have er := (Option.some.inj h).symm
        subst er
        refine Or.inr ⟨rfl, by rw [d]; rfl, d, KCx_f K2 (fr_fp (fr_tr fr_rfl W2 rfl rfl rfl) rfl), fun j hj => ?_, fun k hk => ?_⟩
        · have z := V1 j hj
          show KGq _ _ _ _ _ (w.2.2.1 13) _ _
          rw [W2.2.1 13 rfl]; exact z
        · have z := V2 k hk
          show GvR _ _ _ _ _ _ (w.2.2.1 14 k).toInt
          rw [W2.2.1 14 rfl]; exact z
      · have d : ¬ w.1.toInt = -1 := fun z => d (Int32.toInt_inj.mp (by show w.1.toInt = _; rw [z]; rfl))
        have er := (Option.some.inj h).symm
        subst er
        exact Or.inl ⟨rfl, (R4_neg W1).resolve_left d, rfl⟩
    · have c : ¬ u.1.toInt = -1 := fun z => c (Int32.toInt_inj.mp (by show u.1.toInt = _; rw [z]; rfl))
      have er := (Option.some.inj h).symm
      subst er
      exact Or.inl ⟨rfl, (U3_neg U).resolve_left c, rfl⟩
  · have er := (Option.some.inj h).symm
    subst er
    exact Or.inl ⟨fun z => a (Int32.toInt_inj.mp (by rw [z]; rfl)), x, A⟩
