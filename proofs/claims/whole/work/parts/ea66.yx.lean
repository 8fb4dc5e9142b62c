theorem map_core {b n c M : Nat} {gr cu co li mp om k : cf_O} {R : Nat → List (List Nat)} {rows : List (List (List Int))} {m : Int32 × cf_O} {r : Int32 × cf_O × cf_O} (G : GW b n gr) (RG : RGq b n gr om) (ok : okO I_M om) (L : LRq c li (om.2.1 84)) (e82 : (om.1 82).toInt = (c : Int)) (LW : LwI li) (F : CFa b 3 gr (b + n) R rows cu) (er : rows = rowsL (om.2.1 57) (om.2.1 59) (om.2.1 58) (b + n)) (eM : (gr.1 1).toInt = (M : Int)) (B6 : ∀ y : Nat, mp.2.1 6 y = 0 ∨ mp.2.1 6 y = 1) (k86 : ∀ x : Nat, k.2.1 86 x = 0 ∨ k.2.1 86 x = 1) (k87 : Mt (k.2.1 87)) (hk : fM_makeAll om = some k) (hm : fM_markAll k = some m) (h : fMp_find mp gr cu co li = some r) : (r.1 = 0 ∧ m.1 = 0) ∨ (r.1 = 1 ∧ m.1 = 1 ∧ ∃ Lst : List Nat, RwQ b c (b + n) m.2 (wvM r.2.1) ∧ (wvM r.2.1 0 = 0 ∧ wvM r.2.1 1 = 0) ∧ (∀ x ∈ Lst, 2 ≤ x ∧ x < 2 * (b + n) ∧ gvB b x = false ∧ ¬ wvM r.2.1 x = NOM) ∧ LiC li r.2.1 r.2.1 Lst ∧ flN (fun y => decide (m.2.2.1 92 y = 1)) 420 = Lst ∧ B01 m.2 ∧ (r.2.1.1 2).toInt = (tmO (wvM r.2.1) gr M : Int) ∧ (∀ j : Nat, j < M → otN gr j < 2 * (b + n) ∧ ¬ wvM r.2.1 (otN gr j) = NOM) ∧ ∀ x ∈ Lst, ∀ y : Nat, PiQ (faL li) (wvM r.2.1) x y → 2 ≤ y) := by
  have G0 := G.1
  have hF := LRq_F L
  have eF := FaE_l L
  have hF2 := FcQ_e eF hF
  have X := FmX_i G hF2 L.1.1 LW F
  obtain ⟨MX, eC⟩ := MaX_i G RG ok hF e82 F er
  have ou : ∀ j : Nat, j < M → 0 ≤ (gr.2.1 7 j).toInt ∧ otN gr j < 2 * (b + n) := fun j hj => by
    have := G.2.2 j (by omega)
    unfold otN
    omega
  obtain ⟨MQ, w01, T, S, FE⟩ := find_sp X (by omega) B6 eM ou (by omega) h
  obtain ⟨w, RW, SW⟩ := makeAll_sp MX hk
  have fk := wF_M_makeAll hk
  have fm := wF_M_markAll hm
  have hC := FmX_s X
  have hCR := MaX_s MX
  have ew := SwQ_u (SwQ_fa eF SW) S hCR eC
  have RQ : RwQ b c (b + n) k (wvM MQ) := RwQ_c RW (fun x x2 xN => ew (b + n) x xN x2 xN)
  have e84 : k.2.1 84 = om.2.1 84 := fk.2.1 84 rfl
  have RGk : RGq b n gr k := RGq_f RG (fk.1 39 rfl) (fk.1 40 rfl) (fk.1 43 rfl) (fk.2.1 44 rfl) (fk.2.1 45 rfl) (fk.2.1 46 rfl) (fk.2.1 47 rfl)
  have KX : MkX b n M gr k := ⟨G, RGk, eM, by omega, fun j hj => ⟨RGk.2.2.2.1 j (by omega), ou j hj⟩, fun x j hj => ((k87 (5 * x + 2 + j)).2 (by omega)).2⟩
  have ME := markAll_sp KX k86 hm
  have wt : ∀ x : Nat, wtB b x = true ↔ (2 ≤ x ∧ gvB b x = false) := fun x => by
    unfold wtB
    rw [Bool.and_eq_true, decide_eq_true_iff, Bool.not_eq_true']
  have nom : ∀ x : Nat, x < 2 * (b + n) → wvM MQ x = NOM → wtB b x = true ∧ k.2.1 86 x = 0 := fun x xN z => by
    by_cases x2 : 2 ≤ x
    · rcases RQ x x2 xN with ⟨_, y, _⟩ | ⟨g, ⟨y, _⟩ | ⟨_, y2, y3⟩⟩
      · rw [z] at y; exact absurd y (by decide)
      · exact ⟨(wt x).mpr ⟨x2, g⟩, y⟩
      · have p := (pk_34 y2 (by rw [e84]; exact FcQ_a hF) (by omega)).2
        obtain ⟨c1, s1, h1, h2, h3, h4⟩ := y2
        rw [← y3, z] at p
        unfold NOM at p
        omega
    · rcases (show x = 0 ∨ x = 1 by omega) with e | e
      · rw [e, w01.1] at z; exact absurd z (by decide)
      · rw [e, w01.2] at z; exact absurd z (by decide)
  have nom2 : ∀ x : Nat, x < 2 * (b + n) → wtB b x = true → k.2.1 86 x = 0 → wvM MQ x = NOM := fun x xN w z => by
    have w := (wt x).mp w
    rcases RQ x w.1 xN with ⟨g, _⟩ | ⟨_, ⟨_, y⟩ | ⟨y, _⟩⟩
    · rw [w.2] at g; cases g
    · exact y
    · rw [z] at y; exact absurd y (by decide)
  rcases FE with ⟨f1, j, j1, j2⟩ | ⟨f1, f2, f3, f4, f5, f6⟩
  · refine Or.inl ⟨f1, ?_⟩
    rcases ME with ⟨m1, _⟩ | ⟨_, m2, _⟩
    · exact m1
    · have q := nom _ (ou j j1).2 j2
      have := m2 j j1 q.1
      rw [q.2] at this; exact absurd this (by decide)
  · rcases ME with ⟨_, j, j1, j2, j3⟩ | ⟨m1, m2, m3, m4⟩
    · exact absurd (nom2 _ (ou j j1).2 j2 j3) (f2 j j1)
    · have ewr : wvM r.2.1 = wvM MQ := by funext y; show nv (r.2.1.2.2 4 y) = nv (MQ.2.2 4 y); rw [f3]
      have Tr : TmbQ r.2.1 (b + n) := by unfold TmbQ; rw [f3]; exact T
      obtain ⟨we, wl⟩ := want_eq (om := k) (om2 := m.2) (by omega) (by omega) (by rw [e84]; exact hF) (by rw [e84]; exact eF) (by rw [ewr]; exact RQ) (by rw [ewr]; exact S) Tr hC (by rw [ewr]; exact w01) (fun j hj => (ou j hj).2) (by rw [ewr]; exact f2) f4 m4
      refine Or.inr ⟨f1, m1, flN (ipC r.2.1) (2 * (b + n)), ?_, by rw [ewr]; exact w01, fun x hx => ?_, f5, ?_, m3, by rw [ewr]; exact f6, fun j hj => ⟨(ou j hj).2, by rw [ewr]; exact f2 j hj⟩, fun x hx y hy => ?_⟩
      · rw [ewr]
        exact RwQ_f RQ (fun x _ => ⟨by rw [fm.2.1 86 rfl], fun j _ => by rw [fm.2.1 87 rfl]⟩) (fm.2.1 84 rfl)
      · have q := flN_m.mp hx
        have := wl x q.1 q.2
        exact ⟨this.1, q.1, this.2⟩
      · have e420 : 420 = 2 * (b + n) + (420 - 2 * (b + n)) := by omega
        have pe : ∀ x : Nat, x < 420 → decide (m.2.2.1 92 x = 1) = (decide (x < 2 * (b + n)) && ipC r.2.1 x) := fun x hx => by
          have q := we x
          by_cases z : m.2.2.1 92 x = 1
          · have y := q.mp ⟨hx, z⟩
            rw [decide_eq_true z, decide_eq_true y.1, y.2]; rfl
          · rw [decide_eq_false z]
            by_cases y : x < 2 * (b + n)
            · have : ¬ ipC r.2.1 x = true := fun u => z (q.mpr ⟨y, u⟩).2
              rw [decide_eq_true y, Bool.true_and]
              cases u : ipC r.2.1 x with
              | true => exact absurd u this
              | false => rfl
            · rw [decide_eq_false y, Bool.false_and]
        have s1 : flN (fun y => decide (m.2.2.1 92 y = 1)) 420 = flN (fun x => decide (x < 2 * (b + n)) && ipC r.2.1 x) 420 := flN_e pe
        rw [s1, e420, flN_x (420 - 2 * (b + n)) (fun x hx => by
          show (decide (x < 2 * (b + n)) && ipC r.2.1 x) = false
          rw [decide_eq_false (by omega), Bool.false_and])]
        refine flN_e (fun x hx => ?_)
        rw [decide_eq_true hx, Bool.true_and]
      · have q := flN_m.mp hx
        have u := wl x q.1 q.2
        exact ((sw_pin (y := y) hF2 (by omega) (by omega) (by rw [ewr]; exact S) Tr hC u.1 q.1 u.2.1 u.2.2).2 hy).1
theorem NmL_i {li om : cf_O} {c : Nat} (h : RLb li om) (e : om.1 78 = 1) (e82 : (om.1 82).toInt = (c : Int)) : NmL c li (om.2.1 83) := by
  rcases h with ⟨z, _⟩ | ⟨_, sg, n, c', ln, h1, h2, h3, h4, h5⟩
  · rw [e] at z; exact absurd z (by decide)
  · have ec : c' = c := by omega
    subst ec
    intro i hi
    obtain ⟨ok, a0, _⟩ := h4 i hi
    obtain ⟨_, b0, _⟩ := h5 i hi
    exact ⟨sg, wf sg n (ln i) 1, wt sg n (ln i) 1, wf_0, cel_w ok (by decide), ok.2.2.1, b0, fun k hk => a0 k hk⟩
theorem eq_map {F cu co mp sc gr li sb om : cf_O} {r : Int32 × cf_O × cf_O × cf_O × cf_O × cf_O} {rm : Int32 × cf_O} (e38 : om.1 38 = F.1 16) (h16 : F.1 16 = 0 ∨ (F.1 16 = 1 ∧ ∃ b n : Nat, GW b n gr ∧ RGq b n gr om)) (hl : 0 ≤ (cu.1 4).toInt ∧ cu.1 4 = cu.1 5) (hCu : CuI cu gr) (RL : RLb li om) (LW : om.1 78 = 1 → LwI li ∧ 0 < (li.1 0).toInt) (ho : okO I_M om) (f95 : (0 : Int) ≤ (om.1 95).toInt ∧ (om.1 95).toInt ≤ 0) (hcn : Cn (om.2.1 59) (om.2.1 58)) (m87 : Mt (om.2.1 87)) (m89 : Mt (om.2.1 89)) (m90 : Mt (om.2.1 90)) (fp84 : Fp (om.2.1 84)) (B6 : ∀ y : Nat, mp.2.1 6 y = 0 ∨ mp.2.1 6 y = 1) (MI : MpI F gr mp li om) (h1 : fF_map F cu co mp sc gr li sb = some r) (h2 : fM_map om = some rm) : AnsC [(2, 1), (4, 2)] r.2.1 r.1 rm ∧ MpI r.2.1 gr r.2.2.2.2.1 li rm.2 ∧ ((r.2.1.1 30 = 0 ∧ r.2.2.2.2.2.1 0 = 0 ∧ ¬ F.1 16 = 0) ∨ (¬ r.2.1.1 30 = 0 ∧ r.2.2.2.2.2 = sc ∧ r.2.1.1 18 = F.1 18 ∧ rm.2.1 96 = om.1 96 ∧ rm.2.2.1 97 = om.2.1 97)) := by
  have c21 : fF_map_21 F cu co mp sc gr li sb = some r → fM_map_14 (gM_map cfFU) om = some rm → AnsC [(2, 1), (4, 2)] r.2.1 r.1 rm ∧ MpI r.2.1 gr r.2.2.2.2.1 li rm.2 ∧ ((r.2.1.1 30 = 0 ∧ r.2.2.2.2.2.1 0 = 0 ∧ ¬ F.1 16 = 0) ∨ (¬ r.2.1.1 30 = 0 ∧ r.2.2.2.2.2 = sc ∧ r.2.1.1 18 = F.1 18 ∧ rm.2.1 96 = om.1 96 ∧ rm.2.2.1 97 = om.2.1 97)) := fun z y => by
    unfold fF_map_21 fF_map_22 at z
    rw [if_pos rfl] at z
    unfold fM_map_14 fM_map_19 at y
    rw [refuse_n (by decide), Option.bind_some, if_neg (show ¬ ((1 : Int32), fp om 0 1).1 = 0 from (show ¬ (1 : Int32) = 0 by decide))] at y
    have ez := Option.some.inj z
    have ey := Option.some.inj y
    subst ez; subst ey
    refine ⟨Or.inr ⟨(2, 1), by decide, rfl, rfl⟩, ⟨MI.1, MI.2.imp id (fun q => ⟨q.1, MpS_f q.2 rfl rfl rfl rfl rfl rfl rfl rfl rfl rfl rfl rfl⟩)⟩, Or.inr ⟨(show ¬ (2 : Int32) = 0 by decide), rfl, rfl, rfl, rfl⟩⟩
  unfold fF_map fF_map_0 at h1
  unfold fM_map fM_map_0 at h2
  rcases ifc h1 with ⟨a, h1⟩ | ⟨a, h1⟩
  · rw [if_pos (e38.trans a)] at h2
    exact c21 h1 h2
  · rw [if_neg (fun z => a (e38.symm.trans z))] at h2
    obtain ⟨g1, b, n, G, R⟩ := h16.resolve_left a
    have G0 := G.1
    rcases ifc h1 with ⟨d, h1⟩ | ⟨d, h1⟩
    · have d : (li.1 0).toInt ≤ 0 := c_le d
      have z78 : om.1 78 = 0 := by
        rcases RL with ⟨z, _⟩ | ⟨z, _⟩
        · exact z
        · have := (LW z).2; omega
      rw [if_pos z78] at h2
      exact c21 h1 h2
    · have d : 0 < (li.1 0).toInt := c_nle d
      have z78 : om.1 78 = 1 := by
        rcases RL with ⟨_, z⟩ | ⟨z, _⟩
        · omega
        · exact z
      rw [if_neg (by rw [z78]; decide)] at h2
      obtain ⟨c, e82, L⟩ := LRq_i RL z78
      unfold fF_map_22 fF_map_25 at h1
      rw [if_neg (by decide)] at h1
      obtain ⟨p, hp, h1⟩ := bd h1
      unfold fM_map_19 at h2
      rw [refuse_00, Option.bind_some, if_pos (show ((0 : Int32), fp om 0 0).1 = 0 from rfl)] at h2
      obtain ⟨q, hq, h2⟩ := bd h2
      have hq : fM_cutAll 3 (fp om 0 0) = some q := hq
      have ok0 : okO I_M (fp om 0 0) := ok_fp ho ⟨by decide, by decide⟩
      have R0 : RGq b n gr (fp om 0 0) := RGq_f R rfl rfl rfl rfl rfl rfl rfl
      obtain ⟨cb1, cb2, cb3, cb4, cb5⟩ := cuts_both (K := 3) G R0 (by decide) (by decide) rfl rfl hl hCu ok0 ⟨by show (0 : Int) ≤ (0 : Int32).toInt; decide, by show (0 : Int32).toInt ≤ 2; decide⟩ (e38.trans g1) f95 hcn hp hq
      rcases cb5 with ⟨p0, q0⟩ | ⟨p0, q0, _, ⟨RR, rows, CF, er⟩, _⟩
      · unfold fF_map_37 at h1
        rw [if_pos p0] at h1
        rw [if_pos q0] at h2
        obtain ⟨u, hu, h2⟩ := bd h2
        rw [show fM_refuse 0 1 0 u = some (1, fp u 0 2) from refuse_2 (by decide), Option.bind_some] at h2
        have fu := wF_M_again hu
        have e1 := Option.some.inj h1
        have e2 := Option.some.inj h2
        subst e1; subst e2
        have FF : Fr (fr_M [0, 36, 73] [57, 58, 59, 60, 61, 62, 63, 67, 72, 74] []) om (fp u 0 2) := fr_fp (fr_tr (fr_tr (fr_fp fr_rfl rfl) cb3 rfl rfl rfl) fu rfl rfl rfl) rfl
        refine ⟨Or.inr ⟨(4, 2), by decide, rfl, rfl⟩, ⟨?_, MI.2.imp id (fun y => ⟨y.1, MpS_f y.2 (FF.1 82 rfl) (FF.1 93 rfl) (FF.1 96 rfl) (FF.2.1 41 rfl) (FF.2.1 42 rfl) (FF.2.1 83 rfl) (FF.2.1 84 rfl) (FF.2.1 86 rfl) (FF.2.1 87 rfl) (FF.2.1 94 rfl) (FF.2.1 97 rfl) (FF.2.2 4 rfl)⟩)⟩, Or.inr ⟨(show ¬ (4 : Int32) = 0 by decide), rfl, rfl, FF.1 96 rfl, FF.2.1 97 rfl⟩⟩
        show F.1 18 = (fp u 0 2).1 85
        rw [FF.1 85 rfl]; exact MI.1
      · unfold fF_map_37 at h1
        rw [if_neg p0] at h1
        rw [if_neg q0] at h2
        unfold fF_map_40 at h1
        rw [opk] at h1
        obtain ⟨s, hs, h1⟩ := bd h1
        obtain ⟨k, hk, h2⟩ := bd h2
        have q78 : (1 : Int) ≤ (q.2.1 78).toInt ∧ (q.2.1 78).toInt ≤ 1 := by rw [cb3.1 78 rfl]; show (1 : Int) ≤ (om.1 78).toInt ∧ (om.1 78).toInt ≤ 1; rw [z78]; decide
        have q38 : (1 : Int) ≤ (q.2.1 38).toInt ∧ (q.2.1 38).toInt ≤ 1 := by rw [cb3.1 38 rfl]; show (1 : Int) ≤ (om.1 38).toInt ∧ (om.1 38).toInt ≤ 1; rw [e38, g1]; decide
        obtain ⟨k', ek', QA⟩ := sM_makeAll q.2 cb2 (by rw [cb3.1 0 rfl]; show (0 : Int) ≤ (0 : Int32).toInt ∧ (0 : Int32).toInt ≤ 0; decide) (cb2.1 36) q38 q78 (by rw [cb3.1 95 rfl]; exact f95) (by rw [cb3.2.1 87 rfl]; exact m87) (by rw [cb3.2.1 89 rfl]; exact m89) (by rw [cb3.2.1 90 rfl]; exact m90) (by rw [cb3.2.1 84 rfl]; exact fp84) cb4
        cases ek'.symm.trans hk
        obtain ⟨ko, kf, k87, _⟩ := QA
        obtain ⟨m, hm, h2⟩ := bd h2
        have fm := wF_M_markAll hm
        have R2 : RGq b n gr q.2 := RGq_f R0 (cb3.1 39 rfl) (cb3.1 40 rfl) (cb3.1 43 rfl) (cb3.2.1 44 rfl) (cb3.2.1 45 rfl) (cb3.2.1 46 rfl) (cb3.2.1 47 rfl)
        have k86 : ∀ x : Nat, k.2.1 86 x = 0 ∨ k.2.1 86 x = 1 := fun x => by
          have z : (0 : Int) ≤ (k.2.1 86 x).toInt ∧ (k.2.1 86 x).toInt ≤ 1 := ko.2 86 x
          rcases (show (k.2.1 86 x).toInt = 0 ∨ (k.2.1 86 x).toInt = 1 by omega) with e | e
          · exact Or.inl (Int32.toInt_inj.mp e)
          · exact Or.inr (Int32.toInt_inj.mp e)
        obtain ⟨M, eM⟩ : ∃ M : Nat, (gr.1 1).toInt = (M : Int) := ⟨(gr.1 1).toInt.toNat, by omega⟩
        have core := map_core (c := c) (M := M) G R2 cb2 (by rw [cb3.2.1 84 rfl]; exact L) (by rw [cb3.1 82 rfl]; exact e82) (LW z78).1 CF er eM B6 k86 k87 hk hm hs
        have h2 := (ifn h2).2
        rw [opk] at h2
        obtain ⟨u, hu, h2⟩ := bd h2
        have fu := wF_M_again hu
        unfold fF_map_72 at h1
        have h1 := (ifn h1).2
        rw [opk] at h1
        have FF : Fr (fr_M [0, 36, 73, 85] [57, 58, 59, 60, 61, 62, 63, 67, 72, 74, 86, 87, 88, 89, 90, 91, 92, 98] []) om u := fr_tr (fr_fp (fr_tr (fr_tr (fr_tr (fr_fp fr_rfl rfl) cb3 rfl rfl rfl) kf rfl rfl rfl) fm rfl rfl rfl) rfl) fu rfl rfl rfl
        have u85 : u.1 85 = m.1 := fu.1 85 rfl
        have u0 : u.1 0 = 0 := by
          rw [fu.1 0 rfl]
          show m.2.1 0 = 0
          rw [fm.1 0 rfl, kf.1 0 rfl, cb3.1 0 rfl]; rfl
        rcases core with ⟨s0, m0⟩ | ⟨s1, m1, Ls, c1, c2, c3, c4, c5, c6, c7, c8, c9⟩
        · rw [if_pos (show (fp F 18 s.1).1 18 = 0 from s0)] at h1
          unfold fF_map_93 at h1
          rw [if_pos (u85.trans m0)] at h2
          have e1 := Option.some.inj h1
          have e2 := Option.some.inj h2
          subst e1; subst e2
          refine ⟨Or.inl ⟨rfl, u0, rfl⟩, ⟨?_, Or.inl ?_⟩, Or.inl ⟨rfl, rfl, a⟩⟩
          · show s.1 = u.1 85
            rw [u85, s0, m0]
          · show s.1 = 0
            exact s0
        · rw [if_neg (show ¬ (fp F 18 s.1).1 18 = 0 from fun z => by have z : s.1 = 0 := z; rw [s1] at z; exact absurd z (by decide))] at h1
          unfold fF_map_93 at h1
          rw [if_neg (by rw [u85, m1]; decide), opk] at h2
          have u95 : u.1 95 = 0 := by
            rw [FF.1 95 rfl]
            exact Int32.toInt_inj.mp (by show (om.1 95).toInt = 0; omega)
          have u92 : u.2.1 92 = m.2.2.1 92 := fu.2.1 92 rfl
          have Bu : B01 u := by unfold B01; rw [u92]; exact c6
          obtain ⟨oc, oc', w1, w2, w3, w4, w5⟩ := ml_go Bu u95 cfFU 0 0 (fp u 93 0) rm rfl (by decide) (fr_fp fr_rfl rfl) ⟨rfl, fun i x hx => (by cases hx)⟩ h2
          rw [u92, c5] at w3
          have fw := wXF_M_writeMap (by rw [w2]; decide) w4
          have e1 := Option.some.inj h1
          subst e1; subst w5
          have Fo : Fr (fr_M [93, 95, 96] [94, 97] []) u (fp oc' 95 0) := fr_fp (fr_tr (fr_tr fr_rfl w1 rfl rfl rfl) fw rfl rfl rfl) rfl
          have L5 : (oc'.1 93).toInt = (Ls.length : Int) := by rw [fw.1 93 rfl]; exact w3.1
          have RWu : RwQ b c (b + n) u (wvM s.2.1) := RwQ_f c1 (fun x _ => ⟨by rw [fu.2.1 86 rfl]; rfl, fun j _ => by rw [fu.2.1 87 rfl]; rfl⟩) (fu.2.1 84 rfl)
          have RGu : RGq b n gr u := RGq_f R (FF.1 39 rfl) (FF.1 40 rfl) (FF.1 43 rfl) (FF.2.1 44 rfl) (FF.2.1 45 rfl) (FF.2.1 46 rfl) (FF.2.1 47 rfl)
          refine ⟨Or.inl ⟨rfl, ?_, ?_⟩, ⟨?_, Or.inr ⟨s1, ?_⟩⟩, Or.inl ⟨rfl, rfl, a⟩⟩
          · show (fp oc' 95 0).1 0 = 0
            rw [Fo.1 0 rfl]; exact u0
          · show s.2.1.1 0 = oc'.1 93
            exact Int32.toInt_inj.mp (by rw [c4.1, L5])
          · show s.1 = (fp oc' 95 0).1 85
            rw [Fo.1 85 rfl, u85, s1, m1]
          · refine ⟨b, n, c, M, Ls, ⟨G0.1, G0.2.1, eM, by omega⟩, ⟨by rw [Fo.1 82 rfl, FF.1 82 rfl]; exact e82, by rw [Fo.2.1 84 rfl, FF.2.1 84 rfl]; exact L, by rw [Fo.2.1 83 rfl, FF.2.1 83 rfl]; exact NmL_i RL z78 e82⟩, RwQ_f RWu (fun x _ => ⟨by rw [Fo.2.1 86 rfl], fun j _ => by rw [Fo.2.1 87 rfl]⟩) (Fo.2.1 84 rfl), c2, c3, c4, ⟨L5, fun i x hx => ?_⟩, c7, c8, c9, oc, oc', w4, w2, RGq_f RGu (w1.1 39 rfl) (w1.1 40 rfl) (w1.1 43 rfl) (w1.2.1 44 rfl) (w1.2.1 45 rfl) (w1.2.1 46 rfl) (w1.2.1 47 rfl), RwQ_f RWu (fun x _ => ⟨by rw [w1.2.1 86 rfl], fun j _ => by rw [w1.2.1 87 rfl]⟩) (w1.2.1 84 rfl), w3, ?_⟩
            · show (oc'.2.1 94 i).toInt = _
              rw [fw.2.1 94 rfl]; exact w3.2 i x hx
            · exact ⟨(fw.2.1 83 rfl).symm, (fw.2.1 84 rfl).symm, (fw.2.1 41 rfl).symm, (fw.2.1 42 rfl).symm, (fw.2.2 4 rfl).symm, rfl, rfl⟩
