def oZ : cf_O := (fun _ => 0, fun _ _ => 0, fun _ _ => 0)
def oF0 : cf_O := (fun k => bif Nat.beq k 15 then -1 else 0, fun _ _ => 0, fun _ _ => 0)
def oCu0 : cf_O := (fun k => bif Nat.beq k 4 then 1024 else bif Nat.beq k 5 then 1024 else 0, fun _ _ => 0, fun _ _ => 0)
def oSB0 : cf_O := (fun k => bif Nat.beq k 0 then 16 else 0, fun _ _ => 0, fun _ _ => 0)
def oRx (f g : Nat → Int32) : cf_O := (fun _ => 0, fun k => bif Nat.beq k 8 then f else bif Nat.beq k 9 then g else fun _ => 0, fun _ _ => 0)
def oRe0 : cf_O := oRx (fun i => if i < 81 then cf_pb i 4 else 0) (fun i => if i < 81 then cf_pn i 4 else 0)
def oM0 : cf_O := (fun k => bif Nat.beq k 3 then -1 else 0, fun _ _ => 0, fun k => bif Nat.beq k 4 then vp_updL (vp_updL (vp_updL (vp_updL (fun _ => 0) 0 659210697) 1 21094748847) 2 20100142) 3 4549 else fun _ => 0)
def stx (r : cf_O) : Nat → cf_O
  | 0 => oF0
  | 3 => oCu0
  | 5 => r
  | 16 => oSB0
  | 17 => oSB0
  | _ => oZ
theorem bq {P : Int × Int → Prop} {k n : Nat} {a b : Int × Int} (ha : k = n → P a) (hb : ¬ k = n → P b) : P (bif Nat.beq k n then a else b) := by
  cases h : Nat.beq k n with
  | false => exact hb (fun e => by rw [e, Nat.beq_refl] at h; cases h)
  | true => exact ha (Nat.eq_of_beq_eq_true h)
theorem bne {α : Type} {k n : Nat} {a b : α} (h : ¬ k = n) : (bif Nat.beq k n then a else b) = b := by
  cases q : Nat.beq k n with
  | false => rfl
  | true => exact absurd (Nat.eq_of_beq_eq_true q) h
theorem okZ {I : ok_I} (h1 : ∀ k, (I.1 k).1 ≤ 0 ∧ 0 ≤ (I.1 k).2) (h2 : ∀ k, (I.2 k).1 ≤ 0 ∧ 0 ≤ (I.2 k).2) : okO I oZ := ⟨fun k => h1 k, fun k _ => h2 k⟩
theorem pn_b : ∀ i : Nat, i < 81 → 0 ≤ (cf_pn i 4).toInt ∧ (cf_pn i 4).toInt ≤ 4 := by decide +kernel
theorem Rok_z : Rok 0 := by
  intro k _ _
  have e : (0 : Int32) >>> ((2 * k) &&& 31) = 0 := by
    apply Int32.toBitVec_inj.mp
    simp [Int32.toBitVec_shiftRight]
  rw [e]; decide
theorem ok_Tx0 : okO I_Tx oZ := okZ (fun k => by
      unfold I_Tx
      (repeat refine bq (P := fun x => x.1 ≤ (0 : Int) ∧ (0 : Int) ≤ x.2) (fun e => by first | exact ⟨by decide, by decide⟩) (fun _ => ?_))
      exact ⟨by decide, by decide⟩) (fun k => by
      unfold I_Tx
      (repeat refine bq (P := fun x => x.1 ≤ (0 : Int) ∧ (0 : Int) ≤ x.2) (fun e => by first | exact ⟨by decide, by decide⟩) (fun _ => ?_))
      exact ⟨by decide, by decide⟩)
theorem ok_Fu0 : okO I_Fu oZ := okZ (fun k => by
      unfold I_Fu
      (repeat refine bq (P := fun x => x.1 ≤ (0 : Int) ∧ (0 : Int) ≤ x.2) (fun e => by first | exact ⟨by decide, by decide⟩) (fun _ => ?_))
      exact ⟨by decide, by decide⟩) (fun k => by
      unfold I_Fu
      (repeat refine bq (P := fun x => x.1 ≤ (0 : Int) ∧ (0 : Int) ≤ x.2) (fun e => by first | exact ⟨by decide, by decide⟩) (fun _ => ?_))
      exact ⟨by decide, by decide⟩)
theorem ok_Co0 : okO I_Co oZ := okZ (fun k => by
      unfold I_Co
      (repeat refine bq (P := fun x => x.1 ≤ (0 : Int) ∧ (0 : Int) ≤ x.2) (fun e => by first | exact ⟨by decide, by decide⟩) (fun _ => ?_))
      exact ⟨by decide, by decide⟩) (fun k => by
      unfold I_Co
      (repeat refine bq (P := fun x => x.1 ≤ (0 : Int) ∧ (0 : Int) ≤ x.2) (fun e => by first | exact ⟨by decide, by decide⟩) (fun _ => ?_))
      exact ⟨by decide, by decide⟩)
theorem ok_Cv0 : okO I_Cv oZ := okZ (fun k => by
      unfold I_Cv
      (repeat refine bq (P := fun x => x.1 ≤ (0 : Int) ∧ (0 : Int) ≤ x.2) (fun e => by first | exact ⟨by decide, by decide⟩) (fun _ => ?_))
      exact ⟨by decide, by decide⟩) (fun k => by
      unfold I_Cv
      (repeat refine bq (P := fun x => x.1 ≤ (0 : Int) ∧ (0 : Int) ≤ x.2) (fun e => by first | exact ⟨by decide, by decide⟩) (fun _ => ?_))
      exact ⟨by decide, by decide⟩)
theorem ok_Mp0 : okO I_Mp oZ := okZ (fun k => by
      unfold I_Mp
      (repeat refine bq (P := fun x => x.1 ≤ (0 : Int) ∧ (0 : Int) ≤ x.2) (fun e => by first | exact ⟨by decide, by decide⟩) (fun _ => ?_))
      exact ⟨by decide, by decide⟩) (fun k => by
      unfold I_Mp
      (repeat refine bq (P := fun x => x.1 ≤ (0 : Int) ∧ (0 : Int) ≤ x.2) (fun e => by first | exact ⟨by decide, by decide⟩) (fun _ => ?_))
      exact ⟨by decide, by decide⟩)
theorem ok_Sc0 : okO I_Sc oZ := okZ (fun k => by
      unfold I_Sc
      (repeat refine bq (P := fun x => x.1 ≤ (0 : Int) ∧ (0 : Int) ≤ x.2) (fun e => by first | exact ⟨by decide, by decide⟩) (fun _ => ?_))
      exact ⟨by decide, by decide⟩) (fun k => by
      unfold I_Sc
      (repeat refine bq (P := fun x => x.1 ≤ (0 : Int) ∧ (0 : Int) ≤ x.2) (fun e => by first | exact ⟨by decide, by decide⟩) (fun _ => ?_))
      exact ⟨by decide, by decide⟩)
theorem ok_Nl0 : okO I_Nl oZ := okZ (fun k => by
      unfold I_Nl
      (repeat refine bq (P := fun x => x.1 ≤ (0 : Int) ∧ (0 : Int) ≤ x.2) (fun e => by first | exact ⟨by decide, by decide⟩) (fun _ => ?_))
      exact ⟨by decide, by decide⟩) (fun k => by
      unfold I_Nl
      (repeat refine bq (P := fun x => x.1 ≤ (0 : Int) ∧ (0 : Int) ≤ x.2) (fun e => by first | exact ⟨by decide, by decide⟩) (fun _ => ?_))
      exact ⟨by decide, by decide⟩)
theorem ok_Gr0 : okO I_Gr oZ := okZ (fun k => by
      unfold I_Gr
      (repeat refine bq (P := fun x => x.1 ≤ (0 : Int) ∧ (0 : Int) ≤ x.2) (fun e => by first | exact ⟨by decide, by decide⟩) (fun _ => ?_))
      exact ⟨by decide, by decide⟩) (fun k => by
      unfold I_Gr
      (repeat refine bq (P := fun x => x.1 ≤ (0 : Int) ∧ (0 : Int) ≤ x.2) (fun e => by first | exact ⟨by decide, by decide⟩) (fun _ => ?_))
      exact ⟨by decide, by decide⟩)
theorem ok_Li0 : okO I_Li oZ := okZ (fun k => by
      unfold I_Li
      (repeat refine bq (P := fun x => x.1 ≤ (0 : Int) ∧ (0 : Int) ≤ x.2) (fun e => by first | exact ⟨by decide, by decide⟩) (fun _ => ?_))
      exact ⟨by decide, by decide⟩) (fun k => by
      unfold I_Li
      (repeat refine bq (P := fun x => x.1 ≤ (0 : Int) ∧ (0 : Int) ≤ x.2) (fun e => by first | exact ⟨by decide, by decide⟩) (fun _ => ?_))
      exact ⟨by decide, by decide⟩)
theorem ok_F0 : okO I_F oF0 := by
  refine ⟨fun k => ?_, fun k i => ?_⟩
  · by_cases h15 : k = 15
    · subst h15; exact ⟨by decide, by decide⟩
    have e0 : oF0.1 k = 0 := (bne h15)
    rw [e0]
    show (I_F.1 k).1 ≤ (0 : Int) ∧ (0 : Int) ≤ (I_F.1 k).2
    unfold I_F
    (repeat refine bq (P := fun x => x.1 ≤ (0 : Int) ∧ (0 : Int) ≤ x.2) (fun e => by first | exact ⟨by decide, by decide⟩ | exact absurd e h15) (fun _ => ?_))
    exact ⟨by decide, by decide⟩
  · show (I_F.2 k).1 ≤ (0 : Int) ∧ (0 : Int) ≤ (I_F.2 k).2
    unfold I_F
    (repeat refine bq (P := fun x => x.1 ≤ (0 : Int) ∧ (0 : Int) ≤ x.2) (fun e => by first | exact ⟨by decide, by decide⟩) (fun _ => ?_))
    exact ⟨by decide, by decide⟩
theorem ok_Cu0 : okO I_Cu oCu0 := by
  refine ⟨fun k => ?_, fun k i => ?_⟩
  · by_cases h4 : k = 4
    · subst h4; exact ⟨by decide, by decide⟩
    by_cases h5 : k = 5
    · subst h5; exact ⟨by decide, by decide⟩
    have e0 : oCu0.1 k = 0 := (bne h4).trans (bne h5)
    rw [e0]
    show (I_Cu.1 k).1 ≤ (0 : Int) ∧ (0 : Int) ≤ (I_Cu.1 k).2
    unfold I_Cu
    (repeat refine bq (P := fun x => x.1 ≤ (0 : Int) ∧ (0 : Int) ≤ x.2) (fun e => by first | exact ⟨by decide, by decide⟩ | exact absurd e h4 | exact absurd e h5) (fun _ => ?_))
    exact ⟨by decide, by decide⟩
  · show (I_Cu.2 k).1 ≤ (0 : Int) ∧ (0 : Int) ≤ (I_Cu.2 k).2
    unfold I_Cu
    (repeat refine bq (P := fun x => x.1 ≤ (0 : Int) ∧ (0 : Int) ≤ x.2) (fun e => by first | exact ⟨by decide, by decide⟩) (fun _ => ?_))
    exact ⟨by decide, by decide⟩
theorem ok_SB0 : okO I_SB oSB0 := by
  refine ⟨fun k => ?_, fun k i => ?_⟩
  · by_cases h0 : k = 0
    · subst h0; exact ⟨by decide, by decide⟩
    have e0 : oSB0.1 k = 0 := (bne h0)
    rw [e0]
    show (I_SB.1 k).1 ≤ (0 : Int) ∧ (0 : Int) ≤ (I_SB.1 k).2
    unfold I_SB
    (repeat refine bq (P := fun x => x.1 ≤ (0 : Int) ∧ (0 : Int) ≤ x.2) (fun e => by first | exact ⟨by decide, by decide⟩ | exact absurd e h0) (fun _ => ?_))
    exact ⟨by decide, by decide⟩
  · show (I_SB.2 k).1 ≤ (0 : Int) ∧ (0 : Int) ≤ (I_SB.2 k).2
    unfold I_SB
    (repeat refine bq (P := fun x => x.1 ≤ (0 : Int) ∧ (0 : Int) ≤ x.2) (fun e => by first | exact ⟨by decide, by decide⟩) (fun _ => ?_))
    exact ⟨by decide, by decide⟩
theorem ok_M0 : okO I_M oM0 := by
  refine ⟨fun k => ?_, fun k i => ?_⟩
  · by_cases h3 : k = 3
    · subst h3; exact ⟨by decide, by decide⟩
    have e0 : oM0.1 k = 0 := (bne h3)
    rw [e0]
    show (I_M.1 k).1 ≤ (0 : Int) ∧ (0 : Int) ≤ (I_M.1 k).2
    unfold I_M
    (repeat refine bq (P := fun x => x.1 ≤ (0 : Int) ∧ (0 : Int) ≤ x.2) (fun e => by first | exact ⟨by decide, by decide⟩ | exact absurd e h3) (fun _ => ?_))
    exact ⟨by decide, by decide⟩
  · show (I_M.2 k).1 ≤ (0 : Int) ∧ (0 : Int) ≤ (I_M.2 k).2
    unfold I_M
    (repeat refine bq (P := fun x => x.1 ≤ (0 : Int) ∧ (0 : Int) ≤ x.2) (fun e => by first | exact ⟨by decide, by decide⟩) (fun _ => ?_))
    exact ⟨by decide, by decide⟩
theorem ok_Re0 : okO I_Re oRe0 := by
  refine ⟨fun k => ?_, fun k i => ?_⟩
  · show (I_Re.1 k).1 ≤ (0 : Int) ∧ (0 : Int) ≤ (I_Re.1 k).2
    unfold I_Re
    (repeat refine bq (P := fun x => x.1 ≤ (0 : Int) ∧ (0 : Int) ≤ x.2) (fun e => by first | exact ⟨by decide, by decide⟩) (fun _ => ?_))
    exact ⟨by decide, by decide⟩
  · by_cases h8 : k = 8
    · subst h8
      exact ⟨Int32.le_toInt _, Int32.toInt_le _⟩
    · by_cases h9 : k = 9
      · subst h9
        show (0 : Int) ≤ (if i < 81 then cf_pn i 4 else (0 : Int32)).toInt ∧ (if i < 81 then cf_pn i 4 else (0 : Int32)).toInt ≤ 4
        split
        · exact pn_b i (by assumption)
        · exact ⟨by decide, by decide⟩
      · have e0 : oRe0.2.1 k = fun _ => 0 := (bne h8).trans (bne h9)
        rw [e0]
        show (I_Re.2 k).1 ≤ (0 : Int) ∧ (0 : Int) ≤ (I_Re.2 k).2
        unfold I_Re
        (repeat refine bq (P := fun x => x.1 ≤ (0 : Int) ∧ (0 : Int) ≤ x.2) (fun e => by first | exact ⟨by decide, by decide⟩ | exact absurd e h8 | exact absurd e h9) (fun _ => ?_))
        exact ⟨by decide, by decide⟩
theorem ng {g : Nat} (h : (g : Int) < (0 : Int32).toInt) : False := by rw [show (0 : Int32).toInt = 0 from rfl] at h; omega
theorem IC_0 : IC (stx oRe0) := ⟨ok_F0, ok_Tx0, ok_Fu0, ok_Cu0, ok_Co0, ok_Re0, ok_Cv0, ok_Mp0, ok_Sc0, ok_Sc0, ok_Nl0, ok_Nl0, ok_Gr0, ok_Gr0, ok_Li0, ok_Li0, ok_SB0, ok_SB0, fun g h => (ng h).elim, fun g h => (ng h).elim, ⟨Or.inl rfl, Or.inl rfl⟩, Or.inl rfl, by decide, rfl, Or.inl rfl, Or.inl rfl, Or.inl rfl, fun _ => Rok_z, fun _ => Rok_z, by decide, by decide⟩
theorem z_3 : (0 : Int) ≤ (0 : Int32).toInt ∧ (0 : Int32).toInt ≤ 3 := by decide
theorem z_11 : (0 : Int) ≤ (0 : Int32).toInt ∧ (0 : Int32).toInt ≤ 11 := by decide
theorem z_417 : (-1 : Int) ≤ (0 : Int32).toInt ∧ (0 : Int32).toInt ≤ 417 := by decide
theorem Fp_0 : Fp (fun _ => 0) := fun _ _ => z_3
theorem Mt_0 : Mt (fun _ => 0) := fun _ => ⟨fun _ => z_11, fun _ => z_417⟩
theorem IM_0 : IM oM0 := ⟨ok_M0, fun _ _ _ _ h => (ng h).elim, fun h => absurd h (by decide), Or.inl rfl, fun g h => (ng h).elim, fun g h => (ng h).elim, fun h => absurd rfl h, fun _ _ _ _ h => (ng h).elim, Fp_0, Fp_0, Mt_0, Mt_0, Mt_0, by decide, by decide⟩
theorem W4_0 : W4 (oM0.2.2 4) := by unfold W4; decide +kernel
theorem pb_00 : ∀ p : Nat, p < 81 → cf_pb p 4 = Int32.ofNat (pbN p) ∧ cf_pn p 4 = Int32.ofNat (liN p 4) := by decide +kernel
theorem PbI_0 : PbI oRe0 := fun p hp => by
  show (if p < 81 then cf_pb p 4 else (0 : Int32)) = _ ∧ (if p < 81 then cf_pn p 4 else (0 : Int32)) = _
  rw [if_pos hp, if_pos hp]; exact pb_00 p hp
theorem RA_0 : RA (stx oRe0) oM0 := ⟨⟨⟨rfl, rfl⟩, Or.inl ⟨rfl, rfl⟩, W4_0, rfl, rfl, Or.inl rfl, ⟨fun _ _ => rfl, fun z => absurd rfl z⟩, CuI_0 rfl, PbI_0⟩, RCv_0 rfl rfl rfl rfl ⟨rfl, rfl, by decide, fun i x y => by simp at y⟩, RMp_0 rfl rfl rfl ⟨rfl, rfl, by decide, fun i x y => by simp at y⟩⟩
theorem bud_0 : bud (stx oRe0) = 66254 := by decide +kernel
theorem buS_0 : buS (stx oRe0) = 2120128 := by decide +kernel
