theorem mkred_sim {b n : Nat} {V : Nat → Nat → Bool} {re gr gt fu om : cf_O} {rc : cf_O × cf_O} {rm : Int32 × cf_O} (G : GW b n gr) (S : VSq b n gr V) (BF : FuB b n V fu) (R : RGq b n gr om) (ho : okO I_M om) (f95 : (0 : Int) ≤ (om.1 95).toInt ∧ (om.1 95).toInt ≤ 0) (h38 : om.1 38 = 1) (q1 : fRe_makeReduced re gr gt fu = some rc) (q2 : fM_reduce om = some rm) : NwG gr om rc.2 rm := by
  have G0 := G.1
  unfold fRe_makeReduced fRe_makeReduced_0 at q1
  obtain ⟨p, hp, q1⟩ := bd q1
  rw [opk] at q1
  unfold fM_reduce fM_reduce_0 at q2
  rw [if_neg (by rw [h38]; decide)] at q2
  unfold fM_reduce_13 at q2
  rw [refuse_00, Option.bind_some, if_pos (show ((0 : Int32), fp om 0 0).1 = 0 from rfl)] at q2
  obtain ⟨lo, hl, q2⟩ := bd q2
  have hl : fM_look (fp om 0 0) = some lo := hl
  obtain ⟨rk, hrk, q2⟩ := bd q2
  obtain ⟨bs, hbs, q2⟩ := bd q2
  obtain ⟨be, hbe, q2⟩ := bd q2
  obtain ⟨ol, hol, q2⟩ := bd q2
  have R1 : RGq b n gr (fp om 0 0) := RGq_f R rfl rfl rfl rfl rfl rfl rfl
  have R0n := R1.1
  obtain ⟨lo', elo, QL⟩ := sM_look (fp om 0 0) (ok_fp ho ⟨by decide, by decide⟩) ⟨by show (0 : Int) ≤ (0 : Int32).toInt; decide, by show (0 : Int32).toInt ≤ 0; decide⟩ ⟨by show (1 : Int) ≤ (om.1 38).toInt; rw [h38]; decide, by show (om.1 38).toInt ≤ 1; rw [h38]; decide⟩ f95 (by
    have z := BlC_Gx G R1
    rw [R0n.1, R0n.2.2.1, R0n.2.2.2.1]; exact z)
  cases elo.symm.trans hl
  have fl : Fr (fr_M [] [48, 49, 50] []) (fp om 0 0) lo := QL.2.1
  have R2 : RGq b n gr lo := RGq_f R1 (fl.1 39 rfl) (fl.1 40 rfl) (fl.1 43 rfl) (fl.2.1 44 rfl) (fl.2.1 45 rfl) (fl.2.1 46 rfl) (fl.2.1 47 rfl)
  have LK : Lk (-1) (b : Int) (n : Int) (lo.1 40).toInt (lo.2.1 47) (lo.2.1 44) (lo.2.1 45) (lo.2.1 49) (lo.2.1 48) := by
    have z := QL.2.2.1
    rw [R2.1.1, R2.1.2.2.1, R2.1.2.2.2.1] at z; exact z
  obtain ⟨om2, ⟨f, q3⟩, F1, F2, N, Z4, Z50, hrs⟩ := nb_sim G R1 hp hl
  have f50 := lk3_f q3
  have N2 : NdS (b + n) p.1 lo := by
    unfold NdS
    rw [f50.2.1 48 rfl, f50.2.1 49 rfl]; exact N
  obtain ⟨K1, K2⟩ := reckon_sp G S R2 (by rw [fl.1 38 rfl]; exact h38) hrk
  have R3 : RGq b n gr rk := RGq_f R2 (K1.1 39 rfl) (K1.1 40 rfl) (K1.1 43 rfl) (K1.2.1 44 rfl) (K1.2.1 45 rfl) (K1.2.1 46 rfl) (K1.2.1 47 rfl)
  have ebs := base_sp R3 hbs
  obtain ⟨u1, u2, u3, u4, u5⟩ := begin_sp hbe
  have R4 : RGq b n gr be := RGq_f R3 (u1.1 39 rfl) (u1.1 40 rfl) (u1.1 43 rfl) (u1.2.1 44 rfl) (u1.2.1 45 rfl) (u1.2.1 46 rfl) (u1.2.1 47 rfl)
  obtain ⟨w1, w2⟩ := old_sp R4 hol
  obtain ⟨r1, r2, r3, r4, r5, r6, r7⟩ := restart_sp hrs
  have eb : ((gr.1 0) + 1).toInt = (b : Int) := by rw [p_1 (by omega) (by omega)]; omega
  have Rg0 : Rg b 0 p.2 ol := Rg_0 (by omega) (by omega) (by rw [w1.1 31 rfl]; exact u2) r4 (by rw [w1.1 37 rfl, u4]; exact ebs) (by rw [r2]; omega) (by rw [w1.1 36 rfl, u3, r5]) (fun k hk => by rw [w1.2.1 34 rfl]; exact u5 k hk) r7 r6
  have fbo : Fr (fr_M [0, 31, 36, 37] [34, 51, 75] [56]) lo ol := fr_tr (fr_tr (fr_tr fr_rfl K1 rfl rfl rfl) u1 rfl rfl rfl) w1 rfl rfl rfl
  have B : BrC b n gr p.1 ol := BrC_f (om := lo) ⟨G, R2, N2, LK⟩ rfl rfl (fbo.1 39 rfl) (fbo.1 40 rfl) (fbo.1 43 rfl) (fbo.2.1 44 rfl) (fbo.2.1 45 rfl) (fbo.2.1 46 rfl) (fbo.2.1 47 rfl) (fbo.2.1 48 rfl) (fbo.2.1 49 rfl)
  have I : ReI b n (2 ^ (b - 1)) V ol := by
    unfold ReI
    rw [w1.2.2 56 rfl, u1.2.2 56 rfl]; exact K2
  have F0 : FqR b 0 (b + 0) p.1 ol := fun k hk _ => by
    have z4 := Z4 k (by omega)
    have z5 := w2 k (by omega)
    exact ⟨Int32.toInt_inj.mp (by omega), by omega, by omega⟩
  obtain ⟨m', gt', om', D1, D2, D3, D4, D6, D7, D8, D9⟩ := rdg_go (RE := p.1) (OM := ol) (GT := p.2) S BF I cfFU cfFU ((gr.1 0) + 1) 0 0 0 p.1 p.2 ol rc rm rfl (Nat.zero_le n) (by rw [eb]; rfl) B F0 Rg0 fr_rfl fr_rfl q1 q2
  have fall : Fr (fr_M [0, 31, 36, 37] [32, 33, 34, 48, 49, 50, 51, 75] [56]) om om' := fr_tr (fr_tr (fr_tr (fr_fp fr_rfl rfl) fl rfl rfl rfl) fbo rfl rfl rfl) D6 rfl rfl rfl
  exact fin_new D2.1 D2.2.1 (fun k hk => (D3 _ (BrC_o D2 hk).1 (Or.inr (BrC_o D2 hk).2)).1) D4 (by rw [fall.1 38 rfl]; exact h38) (by rw [D7.1 0 rfl]; exact r2) (by rw [D7.1 1 rfl]; exact r3) (fall.1 64 rfl) (fall.1 85 rfl) (fun b n r => RGq_f r (fall.1 39 rfl) (fall.1 40 rfl) (fall.1 43 rfl) (fall.2.1 44 rfl) (fall.2.1 45 rfl) (fall.2.1 46 rfl) (fall.2.1 47 rfl)) D8 D9
theorem fuI_find {b n : Nat} {gr fu r : cf_O} (G : GW b n gr) (I : FuI fu gr) (h : fFu_find fu gr = some r) : FuI r gr := by
  obtain ⟨V, S⟩ := VS_ex G
  obtain ⟨_, _, z, B⟩ := fuf_sp G S I h
  refine ⟨z, fun _ b2 n2 V2 G2 S2 => ?_⟩
  obtain ⟨_, _, _, B2⟩ := fuf_sp G2 S2 I h
  exact B2
theorem fuI_0 {fu gr gr' : cf_O} (I : FuI fu gr) : FuI (fp fu 0 0) gr' := ⟨I.1, fun z => absurd rfl z⟩
theorem eq_reduce {o0 o1 o2 o3 o4 o5 om : cf_O} {r : Int32 × cf_O × cf_O × cf_O × cf_O × cf_O × cf_O} {rm : Int32 × cf_O} (h38 : om.1 38 = o0.1 16) (h16 : o0.1 16 = 0 ∨ (o0.1 16 = 1 ∧ ∃ b n : Nat, GW b n o4 ∧ RGq b n o4 om)) (hI : FuI o1 o4) (ho : okO I_M om) (f95 : (0 : Int) ≤ (om.1 95).toInt ∧ (om.1 95).toInt ≤ 0) (h1 : fF_reduce o0 o1 o2 o3 o4 o5 = some r) (h2 : fM_reduce om = some rm) : GrC o0 r.2.1 o4 r.2.2.2.2.2.1 r.1 om rm ∧ FuI r.2.2.1 r.2.2.2.2.2.1 := by
  rcases red_c h1 with ⟨a, er⟩ | ⟨a, p, q, hp, hq, h1⟩
  · subst er
    unfold fM_reduce fM_reduce_0 at h2
    rw [if_pos (h38.trans a)] at h2
    unfold fM_reduce_13 at h2
    rw [refuse_1, Option.bind_some, if_neg (show ¬ ((1 : Int32), fp om 0 1).1 = 0 by show ¬ (1 : Int32) = 0; decide)] at h2
    have er := (Option.some.inj h2).symm
    subst er
    exact ⟨Or.inr ⟨Or.inl ⟨rfl, rfl⟩, rfl, rfl, rfl, rfl, rfl, rfl, fun b n r => RGq_f r rfl rfl rfl rfl rfl rfl rfl⟩, hI⟩
  · obtain ⟨a1, b, n, G, R⟩ := h16.resolve_left a
    obtain ⟨V, S⟩ := VS_ex G
    obtain ⟨_, _, z, B⟩ := fuf_sp G S hI hp
    have Ip := fuI_find G hI hp
    obtain ⟨c1, c2, c3⟩ := mkred_sim G S B R ho f95 (h38.trans a1) hq h2
    rcases h1 with ⟨d, er⟩ | ⟨d, er⟩
    · subst er
      rcases c3 with ⟨_, e1, e2, e3, e4, e5⟩ | ⟨e, _⟩
      · exact ⟨Or.inl ⟨rfl, e1, e2.symm, rfl, rfl, rfl, e3, e4, c1, c2, e5⟩, fuI_0 Ip⟩
      · exact absurd d e
    · subst er
      rcases c3 with ⟨e, _⟩ | ⟨_, e1, e2, e3, e4⟩
      · exact absurd e d
      · exact ⟨Or.inr ⟨Or.inr ⟨rfl, e1⟩, rfl, rfl, rfl, rfl, e2, e3, e4⟩, Ip⟩
