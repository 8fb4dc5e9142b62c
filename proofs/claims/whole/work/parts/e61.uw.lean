theorem UQ_c {b n : Nat} {nd us nd2 us2 : Nat → Int32} {gr : cf_O} (G : GW b n gr) (U : UQ b n nd us gr) (e : ∀ k : Nat, k < b + n → nd2 k = nd k ∧ us2 k = us k) : UQ b n nd2 us2 gr := by
  intro x y ox oy exy u1
  have cv : ∀ z : Int32, OcL b n nd2 gr z → OcL b n nd gr z := fun z oz => by
    obtain ⟨i, hi, ni, ei⟩ := oz
    exact ⟨i, hi, by rw [← (e (b + i) (by omega)).1]; exact ni, ei⟩
  have bx := OcL_b G (Nat.le_refl n) ox
  exact U x y (cv x ox) (cv y oy) exy (by rw [← (e _ (by omega)).2]; exact u1)
theorem mkbal_sim {b n : Nat} {re gr gt om : cf_O} {rc : cf_O × cf_O} {rm : Int32 × cf_O} (G : GW b n gr) (R : RGq b n gr om) (ho : okO I_M om) (f95 : (0 : Int) ≤ (om.1 95).toInt ∧ (om.1 95).toInt ≤ 0) (h38 : om.1 38 = 1) (q1 : fRe_makeBalanced re gr gt = some rc) (q2 : fM_balance om = some rm) : NwG gr om rc.2 rm := by
  have G0 := G.1
  unfold fRe_makeBalanced fRe_makeBalanced_0 at q1
  obtain ⟨p, hp, q1⟩ := bd q1
  obtain ⟨a, ha, q1⟩ := bd q1
  rw [opk] at q1
  unfold fM_balance fM_balance_0 at q2
  rw [if_neg (by rw [h38]; decide)] at q2
  unfold fM_balance_13 at q2
  rw [refuse_00, Option.bind_some, if_pos (show ((0 : Int32), fp om 0 0).1 = 0 from rfl)] at q2
  obtain ⟨lo, hl, q2⟩ := bd q2
  have hl : fM_look (fp om 0 0) = some lo := hl
  obtain ⟨bs, hbs, q2⟩ := bd q2
  obtain ⟨be, hbe, q2⟩ := bd q2
  obtain ⟨ol, hol, q2⟩ := bd q2
  have R1 : RGq b n gr (fp om 0 0) := RGq_f R rfl rfl rfl rfl rfl rfl rfl
  have R0n := R1.1
  obtain ⟨lo', elo, QL⟩ := sM_look (fp om 0 0) (ok_fp ho ⟨by decide, by decide⟩) ⟨by show (0 : Int) ≤ (0 : Int32).toInt; decide, by show (0 : Int32).toInt ≤ 0; decide⟩ ⟨by show (1 : Int) ≤ (om.1 38).toInt; rw [h38]; decide, by show (om.1 38).toInt ≤ 1; rw [h38]; decide⟩ f95 (by
    have z := BlC_Gx G R1
    rw [R0n.1, R0n.2.2.1, R0n.2.2.2.1]; exact z)
  cases elo.symm.trans hl
  have fl : Fr (fr_M [] [48, 49, 50] []) (fp om 0 0) lo := QL.2.1
  have R2 : RGq b n gr lo := RGq_f R1 (fl.1 39 rfl) (fl.1 40 rfl) (fl.1 43 rfl) (fl.2.1 44 rfl) (fl.2.1 45 rfl) (fl.2.1 46 rfl) (fl.2.1 47 rfl)
  have LK : Lk (-1) (b : Int) (n : Int) (lo.1 40).toInt (lo.2.1 47) (lo.2.1 44) (lo.2.1 45) (lo.2.1 49) (lo.2.1 48) := by
    have z := QL.2.2.1
    rw [R2.1.1, R2.1.2.2.1, R2.1.2.2.2.1] at z; exact z
  obtain ⟨om2, ⟨f, q3⟩, F1, F2, N, Z4, Z50, hrs⟩ := nb_sim G R1 hp hl
  have f50 := lk3_f q3
  have R3 : RGq b n gr om2 := RGq_f R1 (F2.1 39 rfl) (F2.1 40 rfl) (F2.1 43 rfl) (F2.2.1 44 rfl) (F2.2.1 45 rfl) (F2.2.1 46 rfl) (F2.2.1 47 rfl)
  have L2 : Lk (-1) (b : Int) (n : Int) (lo.1 40).toInt (om2.2.1 47) (om2.2.1 44) (om2.2.1 45) (om2.2.1 49) (om2.2.1 48) := by
    rw [← f50.2.1 47 rfl, ← f50.2.1 44 rfl, ← f50.2.1 45 rfl, ← f50.2.1 49 rfl, ← f50.2.1 48 rfl]; exact LK
  have U : UQ b n (p.1.2.1 0) (p.1.2.1 1) gr := UQ_c G (uq1 G R3 L2) (fun k hk => ⟨(N k hk).1.symm, (N k hk).2.symm⟩)
  unfold fRe_findApart fRe_findApart_0 at ha
  rw [opk] at ha
  have eb : ((gr.1 0) + 1).toInt = (b : Int) := by rw [p_1 (by omega) (by omega)]; omega
  obtain ⟨A1, A2, A3⟩ := ap_go (RE := p.1) (OM := om2) G R3 N U cfFU f ((gr.1 0) + 1) 0 0 p.1 om2 a lo rfl (Nat.zero_le n) (by rw [eb]; rfl) fr_rfl fr_rfl ⟨fun k k1 k2 => absurd k2 (by omega), fun x ox => by
    obtain ⟨i, hi, _⟩ := ox
    exact absurd hi (Nat.not_lt_zero i), fun k _ k2 => Z50 k k2, fun k k1 k2 => absurd (Z50 k k1) k2⟩ ha q3
  have N2 : NdS (b + n) a lo := by
    unfold NdS
    rw [A1.2.1 0 rfl, A1.2.1 1 rfl, A2.2.1 48 rfl, A2.2.1 49 rfl]; exact N
  have B : BlC b n gr a lo := ⟨G, R2, N2, A3, LK⟩
  have ebs := base_sp R2 hbs
  obtain ⟨u1, u2, u3, u4, u5⟩ := begin_sp hbe
  have R4 : RGq b n gr be := RGq_f R2 (u1.1 39 rfl) (u1.1 40 rfl) (u1.1 43 rfl) (u1.2.1 44 rfl) (u1.2.1 45 rfl) (u1.2.1 46 rfl) (u1.2.1 47 rfl)
  obtain ⟨w1, w2⟩ := old_sp R4 hol
  obtain ⟨r1, r2, r3, r4, r5, r6, r7⟩ := restart_sp hrs
  have Rg0 : Rg b 0 p.2 ol := Rg_0 (by omega) (by omega) (by rw [w1.1 31 rfl]; exact u2) r4 (by rw [w1.1 37 rfl, u4]; exact ebs) (by rw [r2]; omega) (by rw [w1.1 36 rfl, u3, r5]) (fun k hk => by rw [w1.2.1 34 rfl]; exact u5 k hk) r7 r6
  have fbo : Fr (fr_M [31, 36, 37] [34, 51] []) lo ol := fr_tr (fr_tr fr_rfl u1 rfl rfl rfl) w1 rfl rfl rfl
  have B2 : BlC b n gr a ol := BlC_f B rfl rfl rfl (fbo.1 39 rfl) (fbo.1 40 rfl) (fbo.1 43 rfl) (fbo.2.1 44 rfl) (fbo.2.1 45 rfl) (fbo.2.1 46 rfl) (fbo.2.1 47 rfl) (fbo.2.1 48 rfl) (fbo.2.1 49 rfl) (fbo.2.1 50 rfl)
  have F0 : FqS b 0 (b + 0) a ol := fun k hk _ => by
    have z4 : (a.2.1 4 k).toInt = 2 * (k : Int) := by rw [A1.2.1 4 rfl]; exact Z4 k (by omega)
    have z5 := w2 k (by omega)
    exact ⟨Int32.toInt_inj.mp (by omega), by omega, by omega⟩
  obtain ⟨m', gt', om', D1, D2, D3, D4, D5, D6, D7, D8, D9⟩ := bl_go (RE := a) (OM := ol) (GT := p.2) cfFU cfFU ((gr.1 0) + 1) 0 0 0 a p.2 ol rc rm rfl (Nat.zero_le n) (by rw [eb]; rfl) B2 F0 Rg0 fr_rfl fr_rfl fr_rfl q1 q2
  have fall : Fr (fr_M [0, 31, 36, 37, 52, 54] [32, 33, 34, 48, 49, 50, 51, 53, 55] []) om om' := fr_tr (fr_tr (fr_tr (fr_fp fr_rfl rfl) fl rfl rfl rfl) fbo rfl rfl rfl) D6 rfl rfl rfl
  exact fin_new D2.1 D2.2.1 (fun k hk => (D3 _ (ou_ok D2 hk).1 (ou_ok D2 hk).2).1) D4 (by rw [fall.1 38 rfl]; exact h38) (by rw [D7.1 0 rfl]; exact r2) (by rw [D7.1 1 rfl]; exact r3) (fall.1 64 rfl) (fall.1 85 rfl) (fun b n r => RGq_f r (fall.1 39 rfl) (fall.1 40 rfl) (fall.1 43 rfl) (fall.2.1 44 rfl) (fall.2.1 45 rfl) (fall.2.1 46 rfl) (fall.2.1 47 rfl)) D8 D9
def GrC (o0 F gr gr' : cf_O) (ra : Int32) (om : cf_O) (rm : Int32 × cf_O) : Prop :=
  (F.1 30 = 0 ∧ rm.2.1 0 = 0 ∧ ra = rm.1 ∧ F.1 16 = o0.1 16 ∧ F.1 17 = 0 ∧ F.1 18 = 0 ∧ rm.2.1 64 = 0 ∧ rm.2.1 85 = 0 ∧ gr'.1 0 = gr.1 0 ∧ gr'.1 1 = gr.1 1 ∧ ∃ b m : Nat, RGq b m gr' rm.2) ∨
  (((F.1 30 = 2 ∧ rm.2.1 0 = 1) ∨ (F.1 30 = 4 ∧ rm.2.1 0 = 2)) ∧ F.1 16 = o0.1 16 ∧ F.1 17 = o0.1 17 ∧ F.1 18 = o0.1 18 ∧ gr' = gr ∧ rm.2.1 64 = om.1 64 ∧ rm.2.1 85 = om.1 85 ∧ ∀ b n : Nat, RGq b n gr om → RGq b n gr rm.2)
theorem eq_balance {o0 o1 o2 o3 o4 o5 om : cf_O} {r : Int32 × cf_O × cf_O × cf_O × cf_O × cf_O × cf_O} {rm : Int32 × cf_O} (h38 : om.1 38 = o0.1 16) (h16 : o0.1 16 = 0 ∨ (o0.1 16 = 1 ∧ ∃ b n : Nat, GW b n o4 ∧ RGq b n o4 om)) (ho : okO I_M om) (f95 : (0 : Int) ≤ (om.1 95).toInt ∧ (om.1 95).toInt ≤ 0) (h1 : fF_balance o0 o1 o2 o3 o4 o5 = some r) (h2 : fM_balance om = some rm) : GrC o0 r.2.1 o4 r.2.2.2.2.2.1 r.1 om rm := by
  rcases bal_c h1 with ⟨a, er⟩ | ⟨a, q, hq, h1⟩
  · subst er
    unfold fM_balance fM_balance_0 at h2
    rw [if_pos (h38.trans a)] at h2
    unfold fM_balance_13 at h2
    rw [refuse_1, Option.bind_some, if_neg (show ¬ ((1 : Int32), fp om 0 1).1 = 0 by show ¬ (1 : Int32) = 0; decide)] at h2
    have er := (Option.some.inj h2).symm
    subst er
    exact Or.inr ⟨Or.inl ⟨rfl, rfl⟩, rfl, rfl, rfl, rfl, rfl, rfl, fun b n r => RGq_f r rfl rfl rfl rfl rfl rfl rfl⟩
  · obtain ⟨a1, b, n, G, R⟩ := h16.resolve_left a
    obtain ⟨c1, c2, c3⟩ := mkbal_sim G R ho f95 (h38.trans a1) hq h2
    rcases h1 with ⟨d, er⟩ | ⟨d, er⟩
    · subst er
      rcases c3 with ⟨_, e1, e2, e3, e4, e5⟩ | ⟨e, _⟩
      · exact Or.inl ⟨rfl, e1, e2.symm, rfl, rfl, rfl, e3, e4, c1, c2, e5⟩
      · exact absurd d e
    · subst er
      rcases c3 with ⟨e, _⟩ | ⟨_, e1, e2, e3, e4⟩
      · exact absurd e d
      · exact Or.inr ⟨Or.inr ⟨rfl, e1⟩, rfl, rfl, rfl, rfl, e2, e3, e4⟩
