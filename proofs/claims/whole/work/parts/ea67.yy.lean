theorem rw_time {b c N x : Nat} {om : cf_O} {w : Nat → Nat} (R : RwQ b c N om w) (hN : N ≤ 209) (hA : ArQ c (om.2.1 84)) (w01 : w 0 = 0 ∧ w 1 = 0) (xN : x < 2 * N) (nx : ¬ w x = NOM) : ((x < 2 ∨ gvB b x = true) ∧ w x = 0) ∨ (2 ≤ x ∧ gvB b x = false ∧ (om.2.1 87 (5 * x)).toInt = ((w x / 2 ^ 44 : Nat) : Int) ∧ (om.2.1 87 (5 * x + 1)).toInt = (celW (w x) : Int) ∧ celW (w x) < c ∧ w x / 2 ^ 44 ≤ 50000 ∧ ∀ k : Nat, k < 3 → (k : Int) < (om.2.1 84 (4 * celW (w x) + 2)).toInt → (om.2.1 87 (5 * x + 2 + k)).toInt = (pinW (w x) k : Int)) := by
  by_cases x2 : 2 ≤ x
  · rcases R x x2 xN with ⟨g, z, _⟩ | ⟨g, ⟨_, z⟩ | ⟨_, z2, z3⟩⟩
    · exact Or.inl ⟨Or.inr g, z⟩
    · exact absurd z nx
    · have Z := z2
      obtain ⟨m1, m2, m3, m4⟩ := mf_pin z2 (by omega) hA
      rw [← z3] at m1 m2 m3 m4
      obtain ⟨c1, s1, h1, h2, h3, h4⟩ := Z
      exact Or.inr ⟨x2, g, m3, m1, m2, by omega, fun k hk => (m4 k hk).1⟩
  · rcases (show x = 0 ∨ x = 1 by omega) with e | e
    · rw [e]; exact Or.inl ⟨Or.inl (by decide), w01.1⟩
    · rw [e]; exact Or.inl ⟨Or.inl (by decide), w01.2⟩
theorem rt_sp {b n c x : Nat} {gr om : cf_O} {w : Nat → Nat} {v q : Int32} (RG : RGq b n gr om) (R : RwQ b c (b + n) om w) (hN : b + n ≤ 209) (hA : ArQ c (om.2.1 84)) (w01 : w 0 = 0 ∧ w 1 = 0) (xN : x < 2 * (b + n)) (nx : ¬ w x = NOM) (ev : v.toInt = (x : Int)) (h : fM_timeOf v om = some q) : q.toInt = ((w x / 2 ^ 44 : Nat) : Int) ∧ w x / 2 ^ 44 ≤ 50000 := by
  unfold fM_timeOf fM_timeOf_0 fM_timeOf_13 fM_timeOf_25 at h
  rcases rw_time R hN hA w01 xN nx with ⟨z1, z2⟩ | ⟨z1, z2, z3, _, _, z4, _⟩
  · rw [z2]
    refine ⟨?_, by decide⟩
    rcases ifc h with ⟨a, h⟩ | ⟨a, h⟩
    · rw [← Option.some.inj h]; rfl
    · have a : 2 ≤ v.toInt := c_nlt a
      obtain ⟨y, hy, h⟩ := bd h
      have ey := isg_sp RG ev hy
      have g : gvB b x = true := z1.resolve_left (by omega)
      rw [ey, g, if_neg (by decide)] at h
      rw [← Option.some.inj h]; rfl
  · refine ⟨?_, z4⟩
    rcases ifc h with ⟨a, h⟩ | ⟨a, h⟩
    · have a : v.toInt < 2 := c_lt a
      omega
    · obtain ⟨y, hy, h⟩ := bd h
      have ey := isg_sp RG ev hy
      rw [ey, z2, if_pos (show bI false = 0 from rfl), opk, tW (mul5 ev (by omega))] at h
      have h := (ifn h).2
      rw [opk] at h
      rw [← Option.some.inj h]; exact z3
theorem arS_t {li : cf_O} {w : Nat → Nat} {L : List Nat} {i x : Nat} (h : L[i]? = some x) : arS li w (L.take (i + 1)) = arS li w (L.take i) + (li.2.1 3 (celW (w x))).toInt.toNat := by
  unfold arS
  rw [List.take_add_one, h]
  show ((L.take i ++ [x]).map _).sum = _
  rw [List.map_append, List.sum_append, List.map_cons, List.map_nil, List.sum_cons, List.sum_nil, Nat.add_zero]
theorem mpd_go {b n c M : Nat} {gr mp li om : cf_O} {v1 : Int32} {L : List Nat} (G : GW b n gr) (RG : RGq b n gr om) (eM : (gr.1 1).toInt = (M : Int)) (hN : b + n ≤ 209) (Lq : LRq c li (om.2.1 84)) (R : RwQ b c (b + n) om (wvM mp)) (w01 : wvM mp 0 = 0 ∧ wvM mp 1 = 0) (HL : ∀ x ∈ L, 2 ≤ x ∧ x < 2 * (b + n) ∧ gvB b x = false ∧ ¬ wvM mp x = NOM) (LR : LiR om L) (ou : ∀ k : Nat, k < M → otN gr k < 2 * (b + n) ∧ ¬ wvM mp (otN gr k) = NOM) : ∀ fu : Nat,
    (∀ (i : Nat) (v2 v3 v4 : Int32) (r : Int32 × cf_O), v4.toInt = (i : Int) → i ≤ L.length → v2.toInt = (arS li (wvM mp) (L.take i) : Int) → arS li (wvM mp) (L.take i) ≤ 1000 * i → v3 = 0 → gM_mapped fu 0 v1 v2 v3 v4 om = some r → r.2 = om ∧ ((v1 = 0 ∧ r.1 = om.1 93) ∨ (¬ v1 = 0 ∧ v1 = 1 ∧ r.1.toInt = (arS li (wvM mp) L : Int)) ∨ (¬ v1 = 0 ∧ ¬ v1 = 1 ∧ r.1.toInt = (tmO (wvM mp) gr M : Int)))) ∧
    (∀ (k : Nat) (v2 v3 v4 : Int32) (r : Int32 × cf_O), v4.toInt = (k : Int) → k ≤ M → v2.toInt = (arS li (wvM mp) L : Int) → v3.toInt = (tmO (wvM mp) gr k : Int) → gM_mapped fu 1 v1 v2 v3 v4 om = some r → r.2 = om ∧ ((v1 = 0 ∧ r.1 = om.1 93) ∨ (¬ v1 = 0 ∧ v1 = 1 ∧ r.1.toInt = (arS li (wvM mp) L : Int)) ∨ (¬ v1 = 0 ∧ ¬ v1 = 1 ∧ r.1.toInt = (tmO (wvM mp) gr M : Int))))
  | 0 => ⟨fun _ _ _ _ _ _ _ _ _ _ h => (by cases h), fun _ _ _ _ _ _ _ _ _ h => (by cases h)⟩
  | fu + 1 => by
    obtain ⟨i0, i1⟩ := mpd_go G RG eM hN Lq R w01 HL LR ou (v1 := v1) fu
    have G0 := G.1
    have hF := LRq_F Lq
    refine ⟨?_, ?_⟩
    · intro i v2 v3 v4 r e4 hi e2 ha e3 h
      have h : fM_mapped_50 (gM_mapped fu) v1 v2 v3 v4 om = some r := h
      unfold fM_mapped_50 at h
      have l93 := LR.1
      rcases ifc h with ⟨a, h⟩ | ⟨a, h⟩
      · have a := c_le a
        have ei : i = L.length := by omega
        subst ei
        rw [List.take_length] at e2
        exact i1 0 v2 v3 0 r rfl (Nat.zero_le _) e2 (by rw [e3]; rfl) h
      · have a := c_nle a
        have il : i < L.length := by omega
        have ex : L[i]? = some L[i] := List.getElem?_eq_getElem il
        have H := HL _ (List.getElem_mem il)
        have c9 := (ifn h).1
        have i420 : i < 420 := by
          by_cases y : i < 420
          · exact y
          · exact absurd (Or.inr (by rw [tW e4]; omega)) c9
        have h := (ifn h).2
        rw [opk, tW e4] at h
        have e94 := LR.2 i _ ex
        rw [opk, opk, tW (addk (k := 1) (mul5 e94 (by omega)) rfl (by omega) (by decide))] at h
        have h := (ifn h).2
        rcases rw_time R hN (FcQ_a hF) w01 H.2.1 H.2.2.2 with ⟨z, _⟩ | ⟨_, _, _, z1, z2, _⟩
        · rcases z with z | z
          · omega
          · rw [H.2.2.1] at z; cases z
        · have c12 := hF.1
          have F := (hF.2 _ z2).1
          have Le := (Lq.2 _ z2).1.1
          rw [opk, opk, tW (mul4 z1 (by omega))] at h
          have h := (ifn h).2
          rw [opk, opk, opk] at h
          have st := arS_t (li := li) (w := wvM mp) ex
          rw [Le] at st
          refine i0 (i + 1) _ v3 (v4 + 1) r (by rw [pW (by omega) (by omega)]; omega) (by omega) ?_ (by rw [st]; omega) e3 h
          rw [st, i_add (by omega) (by omega)]
          omega
    · intro k v2 v3 v4 r e4 hk e2 e3 h
      have h : fM_mapped_94 (gM_mapped fu) v1 v2 v3 v4 om = some r := h
      unfold fM_mapped_94 fM_mapped_161 at h
      have e40 : (om.1 40).toInt = (M : Int) := by rw [RG.1.2.2.2.2.1]; exact eM
      rcases ifc h with ⟨a, h⟩ | ⟨a, h⟩
      · have a := c_le a
        have ek : k = M := by omega
        subst ek
        rcases ifc h with ⟨b1, h⟩ | ⟨b1, h⟩
        · rw [← Option.some.inj h]; exact ⟨rfl, Or.inl ⟨b1, rfl⟩⟩
        · rcases ifc h with ⟨b2, h⟩ | ⟨b2, h⟩
          · rw [← Option.some.inj h]; exact ⟨rfl, Or.inr (Or.inl ⟨b1, b2, e2⟩)⟩
          · rw [← Option.some.inj h]; exact ⟨rfl, Or.inr (Or.inr ⟨b1, b2, e3⟩)⟩
      · have a := c_nle a
        obtain ⟨o1, o2⟩ := ou k (by omega)
        have g7 := G.2.2 k (by omega)
        have e47 : om.2.1 47 k = gr.2.1 7 k := RG.2.2.2.1 k (by omega)
        have eo : (gr.2.1 7 k).toInt = (otN gr k : Int) := by unfold otN; omega
        have h := (ifn h).2
        rw [opk, tW e4, e47] at h
        obtain ⟨q, hq, h⟩ := bd h
        have eq := rt_sp RG R hN (FcQ_a hF) w01 o1 o2 eo hq
        have p4 := pW (v := v4) (by omega) (by omega)
        have st : tmO (wvM mp) gr (k + 1) = max (tmO (wvM mp) gr k) (wvM mp (otN gr k) / 2 ^ 44) := rfl
        rcases ifc h with ⟨d, h⟩ | ⟨d, h⟩
        · have d := c_le d
          unfold fM_mapped_133 at h
          rw [opk] at h
          exact i1 (k + 1) v2 v3 (v4 + 1) r (by omega) (by omega) e2 (by rw [st]; omega) h
        · have d := c_nle d
          have h := (ifn h).2
          rw [opk] at h
          obtain ⟨q2, hq2, h⟩ := bd h
          have eq2 := rt_sp RG R hN (FcQ_a hF) w01 o1 o2 eo hq2
          unfold fM_mapped_133 at h
          rw [opk] at h
          exact i1 (k + 1) v2 q2 (v4 + 1) r (by omega) (by omega) e2 (by rw [st]; omega) h
theorem MpS_x {gr mp li om : cf_O} {b n : Nat} (h : MpS gr mp li om) (G : GW b n gr) : ∃ (c M : Nat) (L : List Nat), (gr.1 1).toInt = (M : Int) ∧ b + n ≤ 209 ∧ ((om.1 82).toInt = (c : Int) ∧ LRq c li (om.2.1 84) ∧ NmL c li (om.2.1 83)) ∧ RwQ b c (b + n) om (wvM mp) ∧ (wvM mp 0 = 0 ∧ wvM mp 1 = 0) ∧ (∀ x ∈ L, 2 ≤ x ∧ x < 2 * (b + n) ∧ gvB b x = false ∧ ¬ wvM mp x = NOM) ∧ LiC li mp mp L ∧ LiR om L ∧ (mp.1 2).toInt = (tmO (wvM mp) gr M : Int) ∧ (∀ k : Nat, k < M → otN gr k < 2 * (b + n) ∧ ¬ wvM mp (otN gr k) = NOM) ∧ (∀ x ∈ L, ∀ y : Nat, PiQ (faL li) (wvM mp) x y → 2 ≤ y) ∧ MpW b n c gr mp om L := by
  obtain ⟨b', n', c, M, L, ⟨h1, h2, h3, h4⟩, h5⟩ := h
  have G0 := G.1
  have e1 : b' = b := by omega
  have e2 : n' = n := by omega
  subst e1; subst e2
  exact ⟨c, M, L, h3, h4, h5⟩
theorem eq_mapped {v1 : Int32} {F mp gr li om : cf_O} {r rm : Int32 × cf_O} (hG : F.1 18 = 1 → ∃ b n : Nat, GW b n gr ∧ RGq b n gr om) (MI : MpI F gr mp li om) (h1 : fF_mapped v1 F mp = some r) (h2 : fM_mapped v1 om = some rm) : AnsC [(2, 1), (1, 2)] r.2 r.1 rm := by
  unfold fF_mapped fF_mapped_0 at h1
  unfold fM_mapped fM_mapped_0 at h2
  rcases MI.2 with z | ⟨z, S⟩
  · rw [if_pos z] at h1
    rw [if_pos (MI.1.symm.trans z)] at h2
    unfold fM_mapped_13 fM_mapped_33 fM_mapped_34 at h2
    rw [if_pos (MI.1.symm.trans z), refuse_n (by decide), Option.bind_some, if_neg (show ¬ ((1 : Int32), fp om 0 1).1 = 0 from (show ¬ (1 : Int32) = 0 by decide))] at h2
    rw [← Option.some.inj h1, ← Option.some.inj h2]
    exact Or.inr ⟨(2, 1), by decide, rfl, rfl⟩
  · rw [if_neg (by rw [z]; decide)] at h1
    have n85 : ¬ om.1 85 = 0 := by rw [← MI.1, z]; decide
    rw [if_neg n85] at h2
    unfold fM_mapped_13 at h2
    rw [if_neg n85] at h2
    obtain ⟨q, hq, h2⟩ := bd h2
    have iq := in_sp hq
    rw [show (0 : Int32).toInt = 0 from rfl, show (2 : Int32).toInt = 2 from rfl] at iq
    unfold fF_mapped_7 at h1
    rcases ifc h2 with ⟨d, h2⟩ | ⟨d, h2⟩
    · have nq := Yn_0 iq d
      unfold fM_mapped_34 at h2
      rw [refuse_01, Option.bind_some, if_neg (show ¬ ((1 : Int32), fp om 0 2).1 = 0 from (show ¬ (1 : Int32) = 0 by decide))] at h2
      rw [if_neg (fun e => nq (by rw [e]; decide)), if_neg (fun e => nq (by rw [e]; decide)), if_neg (fun e => nq (by rw [e]; decide))] at h1
      rw [← Option.some.inj h1, ← Option.some.inj h2]
      exact Or.inr ⟨(1, 2), by decide, rfl, rfl⟩
    · have nq := Yn_1 iq d
      obtain ⟨b, n, G, RG⟩ := hG z
      obtain ⟨c, M, L, s1, s2, ⟨s3, s4, _⟩, s5, s6, s7, s8, s9, s10, s11, _⟩ := MpS_x S G
      unfold fM_mapped_33 fM_mapped_34 at h2
      rw [refuse_00, Option.bind_some, if_pos (show ((0 : Int32), fp om 0 0).1 = 0 from rfl)] at h2
      obtain ⟨e2, ans⟩ := (mpd_go (om := fp om 0 0) (v1 := v1) G (RGq_f RG rfl rfl rfl rfl rfl rfl rfl) s1 s2 s4 (RwQ_f s5 (fun _ _ => ⟨rfl, fun _ _ => rfl⟩) rfl) s6 s7 s9 s11 cfFU).1 0 0 0 0 rm rfl (Nat.zero_le _) rfl (Nat.zero_le _) rfl h2
      have t0 : rm.2.1 0 = 0 := by rw [e2]; rfl
      rcases ans with ⟨a1, a2⟩ | ⟨a0, a1, a2⟩ | ⟨a0, a1, a2⟩
      · rw [if_pos a1] at h1
        rw [← Option.some.inj h1]
        refine Or.inl ⟨rfl, t0, ?_⟩
        show mp.1 0 = rm.1
        rw [a2]
        exact Int32.toInt_inj.mp (by rw [s8.1]; exact s9.1.symm)
      · rw [if_neg a0, if_pos a1] at h1
        rw [← Option.some.inj h1]
        refine Or.inl ⟨rfl, t0, ?_⟩
        show mp.1 1 = rm.1
        exact Int32.toInt_inj.mp (by rw [s8.2.2, a2])
      · have e : v1 = 2 := Int32.toInt_inj.mp (by
          have n0 : ¬ v1.toInt = 0 := fun y => a0 (Int32.toInt_inj.mp y)
          have n1 : ¬ v1.toInt = 1 := fun y => a1 (Int32.toInt_inj.mp y)
          show v1.toInt = 2
          omega)
        rw [if_neg a0, if_neg a1, if_pos e] at h1
        rw [← Option.some.inj h1]
        refine Or.inl ⟨rfl, t0, ?_⟩
        show mp.1 2 = rm.1
        exact Int32.toInt_inj.mp (by rw [s10, a2])
