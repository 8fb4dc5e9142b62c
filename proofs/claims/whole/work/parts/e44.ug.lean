theorem turns_sp {sg : Nat → Int32} {n j : Nat} {x : NXq} {o : cf_O} {v : Int32} {q : Int32 × cf_O} (P : PNx sg n x) (x3 : x.1 = 3) (K : KRx sg n o x) (G : ∀ j : Nat, j < x.2.2.2.1 → KGq sg n x.2.1 x.2.2.2.1 x.2.2.2.2.1 (o.2.1 25) j (nW sg n (x.2.2.2.2.1 j))) (ev : v.toInt = (j : Int)) (hj : j < x.2.2.2.1) (h : fM_turns v o = some q) : TuR (Eg sg n x.2.2.2.1 x.2.2.2.2.1) x.2.2.2.1 j o q := by
  unfold fM_turns fM_turns_0 at h
  refine (turns_go (O := o) (w := fun a => nW sg n (x.2.2.2.2.1 a)) P.2.2.1 hj (fun a b q => q.1) K.2.2.2.1 (fun a ha => ?_) (fun a b ha => Eg_s P (by omega) (G a ha)) (fun a k ha hk => GvR_b P (by omega) (G a ha k (by have hk : k + 2 < nW sg n (x.2.2.2.2.1 a) := hk; omega) hk)) cfFU).1 v 0 o q ev fr_rfl (by decide) (by rw [show (0 : Int32).toInt = 0 from rfl]; omega) (fun b hb => absurd hb (by rw [show (0 : Int32).toInt = 0 from rfl]; omega)) h
  have p := (P.2.2.2.2 a ha).1
  exact ⟨p.1, p.2.1, (K.2.2.2.2 a ha).1.2.1⟩
theorem rd_61 {rc : Nat → Int32 → Int32 → cf_O → Option (Int32 × cf_O)} {v1 v2 : Int32} {o : cf_O} : fM_read_61 rc v1 v2 o = rc 0 v1 (v2 + 1) o := by
  unfold fM_read_61
  rw [opk]
theorem rdl_f {fuel : Nat} {v1 v2 : Int32} {o : cf_O} {rm : Int32 × cf_O} (h5 : ¬ o.1 5 = 0) (h : gM_read fuel 0 v1 v2 o = some rm) : ∃ rc, fM_read_67 rc v1 o = some rm := by
  cases fuel with
  | zero => cases h
  | succ fuel =>
    rcases ifc h with ⟨_, h⟩ | ⟨_, h⟩
    · exact ⟨_, h⟩
    · rcases ifc h with ⟨a, _⟩ | ⟨_, h⟩
      · exact absurd a h5
      · exact ⟨_, h⟩
def RtR (sg : Nat → Int32) (n : Nat) (x : NXq) (O : cf_O) (v1 : Int32) (rm : Int32 × cf_O) : Prop := ∃ (o' : cf_O) (rc : Nat → Int32 → Int32 → cf_O → Option (Int32 × cf_O)), fM_read_67 rc v1 o' = some rm ∧ okO I_M o' ∧ ((Fr (fr_M [] [28] []) O o' ∧ ∀ a : Nat, a < x.2.2.2.1 → ¬ RgX sg n x a) ∨ (Fr (fr_M [5, 6] [28] []) O o' ∧ o'.1 5 = 4 ∧ ∃ l4 : Int, R4c (RgX sg n x) x.2.2.2.2.1 x.2.2.2.1 l4 ∧ 0 ≤ l4 ∧ (o'.1 6).toInt = l4))
theorem rdl_go {sg : Nat → Int32} {n : Nat} {x : NXq} {O : cf_O} (P : PNx sg n x) (x3 : x.1 = 3) (K : KRx sg n O x) (G : ∀ j : Nat, j < x.2.2.2.1 → KGq sg n x.2.1 x.2.2.2.1 x.2.2.2.2.1 (O.2.1 25) j (nW sg n (x.2.2.2.2.1 j))) (h5 : O.1 5 = 0) (h0 : O.1 0 = 0) (h95 : (0 : Int) ≤ (O.1 95).toInt ∧ (O.1 95).toInt ≤ 0) : ∀ (fuel : Nat) (v1 v2 : Int32) (o : cf_O) (rm : Int32 × cf_O), okO I_M o → Fr (fr_M [] [28] []) O o → 0 ≤ v2.toInt → v2.toInt ≤ (x.2.2.2.1 : Int) → (∀ a : Nat, (a : Int) < v2.toInt → ¬ RgX sg n x a) → gM_read fuel 0 v1 v2 o = some rm → RtR sg n x O v1 rm
  | 0, v1, v2, o, rm, ho, rO, k0, k1, hz, h => by cases h
  | fuel + 1, v1, v2, o, rm, ho, rO, k0, k1, hz, h => by
    have t30 := P.2.2.1
    have e17 : (o.1 17).toInt = (x.2.2.2.1 : Int) := by rw [rO.1 17 rfl]; exact K.2.2.2.1
    have K' : KRx sg n o x := KRx_f K (rO.1 10 rfl) (rO.1 13 rfl) (rO.1 16 rfl) (rO.1 17 rfl) (rO.2.1 11 rfl) (rO.2.1 12 rfl) (rO.2.1 14 rfl) (rO.2.1 15 rfl) (rO.2.1 18 rfl) (rO.2.1 19 rfl) (rO.2.1 20 rfl) (rO.2.1 21 rfl) (rO.2.1 22 rfl) (rO.2.1 23 rfl) (rO.2.1 24 rfl)
    have G' : ∀ j : Nat, j < x.2.2.2.1 → KGq sg n x.2.1 x.2.2.2.1 x.2.2.2.2.1 (o.2.1 25) j (nW sg n (x.2.2.2.2.1 j)) := by rw [rO.2.1 25 rfl]; exact G
    have o5 : o.1 5 = 0 := by rw [rO.1 5 rfl]; exact h5
    have o0 : o.1 0 = 0 := by rw [rO.1 0 rfl]; exact h0
    rcases ifc h with ⟨a, h⟩ | ⟨a, h⟩
    · have a := c_le a
      exact ⟨o, _, h, ho, Or.inl ⟨rO, fun b hb => hz b (by omega)⟩⟩
    · have a := c_nle a
      have vi : v2.toNatClampNeg = v2.toInt.toNat := by have := tn_n v2; omega
      have e2 := p_1 (v := v2) k0 (by omega)
      rcases ifc h with ⟨_, h⟩ | ⟨b, _⟩
      · obtain ⟨q, hq, h⟩ := bd h
        have tu := turns_sp (j := v2.toInt.toNat) P x3 K' G' (by omega) (by omega) hq
        obtain ⟨q', eq', Q⟩ := sM_turns v2 o ho ⟨k0, by omega⟩ ⟨by rw [o0]; decide, by rw [o0]; decide⟩ ⟨by rw [o5]; decide, by rw [o5]; decide⟩ ⟨by omega, by omega⟩ (by rw [rO.1 95 rfl]; exact h95) a
        cases eq'.symm.trans hq
        have fq : Fr (fr_M [] [28] []) O q.2 := fr_tr rO tu.1 rfl rfl rfl
        rcases ifc h with ⟨c, h⟩ | ⟨c, h⟩
        · have nr := Yn_0 tu.2 c
          rw [rd_61] at h
          refine rdl_go P x3 K G h5 h0 h95 fuel v1 (v2 + 1) q.2 rm Q.2.1 fq (by omega) (by omega) (fun b hb => ?_) h
          by_cases eb : (b : Int) = v2.toInt
          · rw [show b = v2.toInt.toNat from by omega]; exact nr
          · exact hz b (by omega)
        · have yr := Yn_1 tu.2 c
          have h := (ifn h).2
          obtain ⟨u, hu, h⟩ := bd h
          rw [rd_61] at h
          have eu := fail_sp (by rw [fq.1 5 rfl]; exact h5) hu
          rw [vi] at eu
          subst eu
          obtain ⟨rc, h⟩ := rdl_f (by show ¬ (4 : Int32) = 0; decide) h
          have e18 := (K'.2.2.2.2 v2.toInt.toNat (by omega)).1.1
          have e18' : (q.2.2.1 18 v2.toInt.toNat).toInt = (x.2.2.2.2.1 v2.toInt.toNat : Int) := by rw [tu.1.2.1 18 rfl]; exact e18
          refine ⟨_, rc, h, ok_fp (ok_fp Q.2.1 ⟨by decide, by decide⟩) ⟨Int32.le_toInt _, Int32.toInt_le _⟩, Or.inr ⟨fr_fp (fr_fp (fr_tr fr_rfl fq rfl rfl rfl) rfl) rfl, rfl, (x.2.2.2.2.1 v2.toInt.toNat : Int), Or.inl ⟨v2.toInt.toNat, by omega, yr, fun i hi => hz i (by omega), rfl⟩, by omega, e18'⟩⟩
      · exact absurd o5 b
