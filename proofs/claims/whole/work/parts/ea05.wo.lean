def CuI (cu gr : cf_O) : Prop := ∀ K b n : Nat, 2 ≤ K → K ≤ 5 → (cu.1 0).toInt = (K : Int) → GW b n gr → ∃ (R : Nat → List (List Nat)) (rows : List (List (List Int))), CFa b K gr (b + n) R rows cu
theorem CuI_0 {cu gr : cf_O} (h : cu.1 0 = 0) : CuI cu gr := fun K b n k2 _ e _ => by
  rw [h, show (0 : Int32).toInt = 0 from rfl] at e; omega
theorem GW_u {b n b2 n2 : Nat} {gr : cf_O} (h : GW b n gr) (h2 : GW b2 n2 gr) : b2 = b ∧ n2 = n := by
  have a := h.1
  have c := h2.1
  omega
theorem CuI_f {b n K : Nat} {v : Int32} {gr : cf_O} {r : Int32 × cf_O} (G : GW b n gr) (e : v.toInt = (K : Int)) (F : FCq b n K v gr r) : CuI r.2 gr := by
  rcases F with ⟨_, _, f⟩ | ⟨_, f, R, rows, C⟩
  · exact CuI_0 f
  · intro K2 b2 n2 _ _ e2 G2
    obtain ⟨u1, u2⟩ := GW_u G G2
    subst u1; subst u2
    have eK : K2 = K := by rw [f, e] at e2; omega
    subst eK
    exact ⟨R, rows, C⟩
theorem cuts_both {b n K : Nat} {gr cu om : cf_O} {v1 v2 : Int32} {p q : Int32 × cf_O} (G : GW b n gr) (R : RGq b n gr om) (hK : 2 ≤ K) (hK5 : K ≤ 5) (e1 : v1.toInt = (K : Int)) (e2 : v2.toInt = (K : Int)) (hl : 0 ≤ (cu.1 4).toInt ∧ cu.1 4 = cu.1 5) (hC : CuI cu gr) (ho : okO I_M om) (f0 : (0 : Int) ≤ (om.1 0).toInt ∧ (om.1 0).toInt ≤ 2) (h38 : om.1 38 = 1) (f95 : (0 : Int) ≤ (om.1 95).toInt ∧ (om.1 95).toInt ≤ 0) (hcn : Cn (om.2.1 59) (om.2.1 58)) (h1 : fCu_find v1 cu gr = some p) (h2 : fM_cutAll v2 om = some q) : CuI p.2 gr ∧ okO I_M q.2 ∧ Fr (fr_M [36] [57, 58, 59, 60, 61, 62, 63] []) om q.2 ∧ Cn (q.2.2.1 59) (q.2.2.1 58) ∧ ((p.1 = 0 ∧ q.1 = 0) ∨ (¬ p.1 = 0 ∧ ¬ q.1 = 0 ∧ CutS b n K p.2 q.2 ∧ (∃ (RR : Nat → List (List Nat)) (rows : List (List (List Int))), CFa b K gr (b + n) RR rows p.2 ∧ rows = rowsL (q.2.2.1 57) (q.2.2.1 59) (q.2.2.1 58) (b + n)) ∧ BqZ 0 (b : Int) (n : Int) (q.2.2.1 57) (q.2.2.1 59) (q.2.2.1 58) (q.2.2.1 62) (q.2.2.1 63) ∧ (∀ k j : Nat, k < b + n → (j : Int) < (q.2.2.1 57 k).toInt → CvG b gr (cutL (q.2.2.1 59) (q.2.2.1 58) (301 * k + j)) k) ∧ Cz ((b : Int) + (n : Int)) (b : Int) (n : Int) (q.2.2.1 44) (q.2.2.1 45) (q.2.2.1 57) (q.2.2.1 59) (q.2.2.1 58))) := by
  have G0 := G.1
  have F := fnd_sp G e1 hK hK5 hl (fun e => hC K b n hK hK5 (by rw [e]; exact e1) G) h1
  obtain ⟨q', eq', Q⟩ := sN_cutAll v2 om ho ⟨by omega, by omega⟩ f0 ⟨by rw [h38]; decide, by rw [h38]; decide⟩ f95 hcn (by omega) (by
    have z := BlC_Gx G R
    rw [R.1.1, R.1.2.2.1, R.1.2.2.2.1]; exact z) (by omega)
  cases eq'.symm.trans h2
  obtain ⟨i1, ok, fr, cn, BC, H, FZ, _, Q, _⟩ := Q
  have R1 : RGq b n gr q.2 := RGq_f R (fr.1 39 rfl) (fr.1 40 rfl) (fr.1 43 rfl) (fr.2.1 44 rfl) (fr.2.1 45 rfl) (fr.2.1 46 rfl) (fr.2.1 47 rfl)
  rw [R1.1.1, R1.1.2.2.1, R1.1.2.2.2.1, e2] at BC H Q
  rw [R1.1.1, R1.1.2.2.1, R1.1.2.2.2.1] at FZ
  rw [fr.2.1 44 rfl, fr.2.1 45 rfl] at H Q
  refine ⟨CuI_f G e1 F, ok, fr, cn, ?_⟩
  rcases cut_alike G R hK hK5 F fr ok i1 BC H Q with ⟨z1, z2⟩ | ⟨z1, z2, z3⟩
  · exact Or.inl ⟨z1, z2⟩
  · have nz : ¬ q.1.toInt = 0 := fun y => z2 (Int32.toInt_inj.mp (by rw [y]; rfl))
    obtain ⟨k1, k2⟩ := Q nz
    rw [show (b : Int).toNat = b from rfl, show (n : Int).toNat = n from rfl, show (K : Int).toNat = K from rfl, show ((b : Int) + (n : Int)).toNat = b + n from rfl] at k1
    have ec : cutsN b (shN b (gr.2.1 4)) (shN b (gr.2.1 5)) K n = cutsN b (om.2.1 44) (om.2.1 45) K n := cutsN_c (fun g hg => ⟨(R.2.1 g hg).1.symm, (R.2.1 g hg).2.symm⟩)
    refine Or.inr ⟨z1, z2, z3, ?_, k2, fun k j hk hj => ?_, (FZ nz).1⟩
    · rcases F with ⟨f1, _⟩ | ⟨_, _, RR, rows, C⟩
      · exact absurd f1 z1
      · refine ⟨RR, rows, C, ?_⟩
        have c6 := C.2.2.2.2.2.1
        rw [show b + n - b = n by omega, ec, k1] at c6
        exact (Option.some.inj c6).symm
    · rw [← ec] at k1
      have y := (cuts_cov G0.2.2.2.1 n _ G.2.1 k1).2 k hk
      exact y _ (by rw [rows_d hk]; exact row_m.mpr ⟨j, hj, rfl⟩)
theorem again_k {om u : cf_O} (h : fM_again om = some u) : u.1 0 = om.1 0 ∧ u.1 64 = om.1 64 ∧ u.1 85 = om.1 85 ∧ u.1 38 = om.1 38 ∧ ∀ (b n : Nat) (gr : cf_O), RGq b n gr om → RGq b n gr u := by
  have f := wF_M_again h
  exact ⟨f.1 0 rfl, f.1 64 rfl, f.1 85 rfl, f.1 38 rfl, fun b n gr R => RGq_f R (f.1 39 rfl) (f.1 40 rfl) (f.1 43 rfl) (f.2.1 44 rfl) (f.2.1 45 rfl) (f.2.1 46 rfl) (f.2.1 47 rfl)⟩
theorem mkrew_sim {b n : Nat} {re gr gt cu co om om0 : cf_O} {rc : cf_O × cf_O × cf_O} {rm : Int32 × cf_O} {lo be ol : cf_O} {q : Int32} (G : GW b n gr) (R1 : RGq b n gr om) (ho : okO I_M om) (f0 : om.1 0 = 0) (f95 : (0 : Int) ≤ (om.1 95).toInt ∧ (om.1 95).toInt ≤ 0) (h38 : om.1 38 = 1) (K : RwK b n gr cu om) (P : PbI re) (k64 : om.1 64 = om0.1 64) (k85 : om.1 85 = om0.1 85) (kG : ∀ b n : Nat, RGq b n gr om0 → RGq b n gr om) (q1 : fRe_makeRewritten re gr gt cu co = some rc) (hl : fM_look om = some lo) (hbs : fM_base lo = some q) (hbe : fM_begin q lo = some be) (hol : fM_old be = some ol) (q2 : gM_rewrite cfFU 0 0 ol = some rm) : PbI rc.1 ∧ ∃ w : Int32 × cf_O, NwG gr om0 rc.2.1 w ∧ (((w.2.1 0).toInt ≤ 0 ∧ rm = w) ∨ (0 < (w.2.1 0).toInt ∧ ∃ u : cf_O, fM_again w.2 = some u ∧ rm = (w.1, u))) ∧ Fr (fr_M [0, 31, 36, 37, 43, 64, 70, 85] [32, 33, 34, 35, 44, 45, 46, 47, 48, 49, 50, 51, 68, 69, 75] []) om w.2 := by
  have G0 := G.1
  unfold fRe_makeRewritten fRe_makeRewritten_0 at q1
  obtain ⟨p, hp, q1⟩ := bd q1
  rw [opk] at q1
  have R0n := R1.1
  obtain ⟨lo', elo, QL⟩ := sM_look om ho ⟨by rw [f0]; decide, by rw [f0]; decide⟩ ⟨by rw [h38]; decide, by rw [h38]; decide⟩ f95 (by
    have z := BlC_Gx G R1
    rw [R0n.1, R0n.2.2.1, R0n.2.2.2.1]; exact z)
  cases elo.symm.trans hl
  have fl : Fr (fr_M [] [48, 49, 50] []) om lo := QL.2.1
  have R2 : RGq b n gr lo := RGq_f R1 (fl.1 39 rfl) (fl.1 40 rfl) (fl.1 43 rfl) (fl.2.1 44 rfl) (fl.2.1 45 rfl) (fl.2.1 46 rfl) (fl.2.1 47 rfl)
  have LK : Lk (-1) (b : Int) (n : Int) (lo.1 40).toInt (lo.2.1 47) (lo.2.1 44) (lo.2.1 45) (lo.2.1 49) (lo.2.1 48) := by
    have z := QL.2.2.1
    rw [R2.1.1, R2.1.2.2.1, R2.1.2.2.2.1] at z; exact z
  obtain ⟨om2, ⟨f, q3⟩, F1, F2, N, Z4, Z50, hrs⟩ := nb_sim G R1 hp hl
  have f50 := lk3_f q3
  have N2 : NdS (b + n) p.1 lo := by
    unfold NdS
    rw [f50.2.1 48 rfl, f50.2.1 49 rfl]; exact N
  have ebs := base_sp R2 hbs
  obtain ⟨u1, u2, u3, u4, u5⟩ := begin_sp hbe
  have R4 : RGq b n gr be := RGq_f R2 (u1.1 39 rfl) (u1.1 40 rfl) (u1.1 43 rfl) (u1.2.1 44 rfl) (u1.2.1 45 rfl) (u1.2.1 46 rfl) (u1.2.1 47 rfl)
  obtain ⟨w1, w2⟩ := old_sp R4 hol
  obtain ⟨r1, r2, r3, r4, r5, r6, r7⟩ := restart_sp hrs
  have eb : ((gr.1 0) + 1).toInt = (b : Int) := by rw [p_1 (by omega) (by omega)]; omega
  have Rg0 : Rg b 0 p.2 ol := Rg_0 (by omega) (by omega) (by rw [w1.1 31 rfl]; exact u2) r4 (by rw [w1.1 37 rfl, u4]; exact ebs) (by rw [r2]; omega) (by rw [w1.1 36 rfl, u3, r5]) (fun k hk => by rw [w1.2.1 34 rfl]; exact u5 k hk) r7 r6
  have fbo : Fr (fr_M [31, 36, 37] [34, 51] []) lo ol := fr_tr (fr_tr fr_rfl u1 rfl rfl rfl) w1 rfl rfl rfl
  have flo : Fr (fr_M [31, 36, 37] [34, 48, 49, 50, 51] []) om ol := fr_tr (fr_tr fr_rfl fl rfl rfl rfl) fbo rfl rfl rfl
  have B : BrC b n gr p.1 ol := BrC_f (om := lo) ⟨G, R2, N2, LK⟩ rfl rfl (fbo.1 39 rfl) (fbo.1 40 rfl) (fbo.1 43 rfl) (fbo.2.1 44 rfl) (fbo.2.1 45 rfl) (fbo.2.1 46 rfl) (fbo.2.1 47 rfl) (fbo.2.1 48 rfl) (fbo.2.1 49 rfl)
  have F0 : FqR b 0 (b + 0) p.1 ol := fun k hk _ => by
    have z4 := Z4 k (by omega)
    have z5 := w2 k (by omega)
    exact ⟨Int32.toInt_inj.mp (by omega), by omega, by omega⟩
  have K' : RwK b n gr cu ol := by
    unfold RwK CutS at K ⊢
    rw [flo.2.1 44 rfl, flo.2.1 45 rfl, flo.2.1 57 rfl, flo.2.1 58 rfl, flo.2.1 59 rfl, flo.2.1 63 rfl]; exact K
  have P' : PbI p.1 := fun k hk => by
    rw [F1.2.1 8 rfl, F1.2.1 9 rfl]; exact P k hk
  obtain ⟨m', gt', om', D1, D2, D3, D4, D6, D7, D8, D9, w, hw, D10⟩ := rwg_go (OM := ol) (GT := p.2) K' cfFU cfFU ((gr.1 0) + 1) 0 0 0 p.1 p.2 ol co rc rm rfl (Nat.zero_le n) (by rw [eb]; rfl) B F0 Rg0 P' fr_rfl fr_rfl q1 q2
  have fall : Fr (fr_M [31, 36, 37, 70] [32, 33, 34, 48, 49, 50, 51, 68, 69, 75] []) om om' := fr_tr (fr_tr fr_rfl flo rfl rfl rfl) D6 rfl rfl rfl
  refine ⟨D9, w, ?_, D10, fr_tr (fr_tr fr_rfl fall rfl rfl rfl) (wF_M_finish hw) rfl rfl rfl⟩
  exact fin_new D2.1 D2.2.1 (fun k hk => (D3 _ (BrC_o D2 hk).1 (Or.inr (BrC_o D2 hk).2)).1) D4 (by rw [fall.1 38 rfl]; exact h38) (by rw [D7.1 0 rfl]; exact r2) (by rw [D7.1 1 rfl]; exact r3) (by rw [fall.1 64 rfl]; exact k64) (by rw [fall.1 85 rfl]; exact k85) (fun b n r => RGq_f (kG b n r) (fall.1 39 rfl) (fall.1 40 rfl) (fall.1 43 rfl) (fall.2.1 44 rfl) (fall.2.1 45 rfl) (fall.2.1 46 rfl) (fall.2.1 47 rfl)) D8 hw
theorem eq_rewrite {o0 o1 o2 o3 o4 o5 o6 om : cf_O} {r : Int32 × cf_O × cf_O × cf_O × cf_O × cf_O × cf_O × cf_O} {rm : Int32 × cf_O} (h38 : om.1 38 = o0.1 16) (h16 : o0.1 16 = 0 ∨ (o0.1 16 = 1 ∧ ∃ b n : Nat, GW b n o5 ∧ RGq b n o5 om)) (hI : FuI o1 o5) (hl : 0 ≤ (o2.1 4).toInt ∧ o2.1 4 = o2.1 5) (hC : CuI o2 o5) (P : PbI o4) (ho : okO I_M om) (f95 : (0 : Int) ≤ (om.1 95).toInt ∧ (om.1 95).toInt ≤ 0) (hcn : Cn (om.2.1 59) (om.2.1 58)) (h1 : fF_rewrite o0 o1 o2 o3 o4 o5 o6 = some r) (h2 : fM_rewrite om = some rm) : GrC o0 r.2.1 o5 r.2.2.2.2.2.2.1 r.1 om rm ∧ FuI r.2.2.1 r.2.2.2.2.2.2.1 ∧ CuI r.2.2.2.1 r.2.2.2.2.2.2.1 ∧ PbI r.2.2.2.2.2.1 := by
  rcases rew_c h1 with ⟨a, er⟩ | ⟨a, p, hp, h1⟩
  · subst er
    unfold fM_rewrite fM_rewrite_0 at h2
    rw [if_pos (h38.trans a)] at h2
    unfold fM_rewrite_13 at h2
    rw [refuse_1, Option.bind_some, if_neg (show ¬ ((1 : Int32), fp om 0 1).1 = 0 by show ¬ (1 : Int32) = 0; decide)] at h2
    have er := (Option.some.inj h2).symm
    subst er
    exact ⟨Or.inr ⟨Or.inl ⟨rfl, rfl⟩, rfl, rfl, rfl, rfl, rfl, rfl, fun b n r => RGq_f r rfl rfl rfl rfl rfl rfl rfl⟩, hI, hC, P⟩
  · obtain ⟨a1, b, n, G, R⟩ := h16.resolve_left a
    have m38 : om.1 38 = 1 := h38.trans a1
    unfold fM_rewrite fM_rewrite_0 at h2
    rw [if_neg (by rw [m38]; decide)] at h2
    unfold fM_rewrite_13 at h2
    rw [refuse_00, Option.bind_some, if_pos (show ((0 : Int32), fp om 0 0).1 = 0 from rfl)] at h2
    obtain ⟨q, hq, h2⟩ := bd h2
    have hq : fM_cutAll 4 (fp om 0 0) = some q := hq
    have R1 : RGq b n o5 (fp om 0 0) := RGq_f R rfl rfl rfl rfl rfl rfl rfl
    obtain ⟨c1, c2, c3, c4, c5⟩ := cuts_both (K := 4) G R1 (by decide) (by decide) rfl rfl hl hC (ok_fp ho ⟨by decide, by decide⟩) ⟨by show (0 : Int) ≤ (0 : Int32).toInt; decide, by show (0 : Int32).toInt ≤ 2; decide⟩ m38 f95 hcn hp hq
    rcases c5 with ⟨y1, y2⟩ | ⟨y1, y2, y3, y4, y5, y6, y7⟩
    · rcases h1 with ⟨_, er⟩ | ⟨d, _⟩
      · subst er
        rw [if_pos y2] at h2
        obtain ⟨u, hu, h2⟩ := bd h2
        obtain ⟨k1, k2, k3, k4, k5⟩ := again_k hu
        obtain ⟨w, hw, h2⟩ := bd h2
        rw [show fM_refuse 0 1 0 u = some (1, fp u 0 2) from refuse_2 (by decide)] at hw
        have ew := (Option.some.inj hw).symm
        subst ew
        have er := (Option.some.inj h2).symm
        subst er
        refine ⟨Or.inr ⟨Or.inr ⟨rfl, rfl⟩, rfl, rfl, rfl, rfl, ?_, ?_, fun b n r => ?_⟩, hI, c1, P⟩
        · show u.1 64 = om.1 64
          rw [k2, c3.1 64 rfl]; rfl
        · show u.1 85 = om.1 85
          rw [k3, c3.1 85 rfl]; rfl
        · have r1 : RGq b n o5 (fp om 0 0) := RGq_f r rfl rfl rfl rfl rfl rfl rfl
          have r2 : RGq b n o5 q.2 := RGq_f r1 (c3.1 39 rfl) (c3.1 40 rfl) (c3.1 43 rfl) (c3.2.1 44 rfl) (c3.2.1 45 rfl) (c3.2.1 46 rfl) (c3.2.1 47 rfl)
          exact RGq_f (k5 b n o5 r2) rfl rfl rfl rfl rfl rfl rfl
      · exact absurd y1 d
    · rcases h1 with ⟨d, _⟩ | ⟨_, mk, hmk, h1⟩
      · exact absurd d y1
      rw [if_neg y2] at h2
      obtain ⟨lo, hlo, h2⟩ := bd h2
      obtain ⟨bs, hbs, h2⟩ := bd h2
      obtain ⟨be, hbe, h2⟩ := bd h2
      obtain ⟨ol, hol, h2⟩ := bd h2
      have R2 : RGq b n o5 q.2 := RGq_f R1 (c3.1 39 rfl) (c3.1 40 rfl) (c3.1 43 rfl) (c3.2.1 44 rfl) (c3.2.1 45 rfl) (c3.2.1 46 rfl) (c3.2.1 47 rfl)
      obtain ⟨P', w, W, D, _⟩ := mkrew_sim (om0 := om) G R2 c2 (c3.1 0 rfl) (by rw [c3.1 95 rfl]; exact f95) (by rw [c3.1 38 rfl]; exact m38) ⟨y3, y6, y7⟩ P (c3.1 64 rfl) (c3.1 85 rfl) (fun b n r => RGq_f (RGq_f r rfl rfl rfl rfl rfl rfl rfl : RGq b n o5 (fp om 0 0)) (c3.1 39 rfl) (c3.1 40 rfl) (c3.1 43 rfl) (c3.2.1 44 rfl) (c3.2.1 45 rfl) (c3.2.1 46 rfl) (c3.2.1 47 rfl)) hmk hlo hbs hbe hol h2
      obtain ⟨w1, w2, w3⟩ := W
      rcases h1 with ⟨d, er⟩ | ⟨d, er⟩
      · subst er
        rcases w3 with ⟨_, e1, e2, e3, e4, e5⟩ | ⟨e, _⟩
        · rcases D with ⟨_, er⟩ | ⟨z, _⟩
          · subst er
            exact ⟨Or.inl ⟨rfl, e1, e2.symm, rfl, rfl, rfl, e3, e4, w1, w2, e5⟩, fuI_0 hI, CuI_0 rfl, P'⟩
          · rw [e1] at z; exact absurd z (by decide)
        · exact absurd d e
      · subst er
        rcases w3 with ⟨e, _⟩ | ⟨_, e1, e2, e3, e4⟩
        · exact absurd e d
        · rcases D with ⟨z, _⟩ | ⟨_, u, hu, er⟩
          · rw [e1] at z; exact absurd z (by decide)
          · subst er
            obtain ⟨k1, k2, k3, k4, k5⟩ := again_k hu
            exact ⟨Or.inr ⟨Or.inr ⟨rfl, k1.trans e1⟩, rfl, rfl, rfl, rfl, k2.trans e2, k3.trans e3, fun b n r => k5 b n o5 (e4 b n r)⟩, hI, c1, P'⟩
