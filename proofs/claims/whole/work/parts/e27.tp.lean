def AddR (sg : Nat → Int32) (n : Nat) (o r : cf_O) (j c m : Nat) : Prop := Fr (fr_M [] [22, 23, 24] []) o r ∧ (r.2.1 22 j).toInt = (c : Int) + 1 ∧ (∀ i : Nat, ¬ i = j → r.2.1 22 i = o.2.1 22 i ∧ r.2.1 24 i = o.2.1 24 i) ∧ (r.2.1 23 (16 * j + c)).toInt = wf sg n m 0 ∧ (∀ i : Nat, ¬ i = 16 * j + c → r.2.1 23 i = o.2.1 23 i) ∧ (r.2.1 24 j).toInt = eB sg n m
theorem vb_1 : vp_nar .boolean (1 : Int32) = 1 := by decide
theorem vb_0 : vp_nar .boolean (0 : Int32) = 0 := by decide
theorem r324 {sg : Nat → Int32} {n m j c : Nat} {rc : Nat → Int32 → Int32 → Int32 → Int32 → Int32 → Int32 → cf_O → Option cf_O} {v2 b : Int32} {o r : cf_O} (ej : v2.toInt = (j : Int)) (j30 : j < 30) (ec : (o.2.1 22 j).toInt = (c : Int)) (c16 : c < 16) (e0 : (o.2.1 8 0).toInt = wf sg n m 0) (eb : (vp_nar .boolean b).toInt = eB sg n m) (h : fM_rowLine_324 rc v2 v2 b o = some r) : AddR sg n o r j c m := by
  have vi : v2.toNatClampNeg = j := by have := tn_n v2; omega
  unfold fM_rowLine_324 at h
  have h := (ifn h).2
  rw [opk, opk] at h
  have h := (ifn h).2
  rw [opk, opk] at h
  have h := (ifn h).2
  rw [opk] at h
  have h := (ifn h).2
  rw [opk] at h
  have h := (ifn h).2
  rw [opk, opk] at h
  have h : some (xp (xp (xp o 24 v2.toNatClampNeg (vp_nar .boolean b)) 23 (16 * v2 + o.2.1 22 v2.toNatClampNeg).toNatClampNeg (o.2.1 8 0)) 22 v2.toNatClampNeg (o.2.1 22 v2.toNatClampNeg + 1)) = some r := (ifn h).2
  have m6 : (16 * v2).toInt = 16 * (j : Int) := by rw [Int32.toInt_mul, ej, i_bm (by rw [show (16 : Int32).toInt = 16 from rfl]; omega) (by rw [show (16 : Int32).toInt = 16 from rfl]; omega)]; rfl
  have m7 : (16 * v2 + o.2.1 22 j).toInt = 16 * (j : Int) + (c : Int) := by rw [Int32.toInt_add, m6, ec, i_bm (by omega) (by omega)]
  have mi : (16 * v2 + o.2.1 22 j).toNatClampNeg = 16 * j + c := by have := tn_n (16 * v2 + o.2.1 22 j); omega
  rw [vi, mi] at h
  rw [← Option.some.inj h]
  refine ⟨fr_xp (fr_xp (fr_xp fr_rfl rfl) rfl) rfl, ?_, fun i ni => ⟨up_o (f := o.2.1 22) ni, up_o (f := o.2.1 24) ni⟩, ?_, fun i ni => up_o (f := o.2.1 23) ni, ?_⟩
  · show (upd (o.2.1 22) j (o.2.1 22 j + 1) j).toInt = _
    rw [up_s, p_1 (by omega) (by omega), ec]
  · show (upd (o.2.1 23) (16 * j + c) (o.2.1 8 0) (16 * j + c)).toInt = _
    rw [up_s]; exact e0
  · show (upd (o.2.1 24) j (vp_nar .boolean b) j).toInt = _
    rw [up_s]; exact eb
theorem r283_0 {rc : Nat → Int32 → Int32 → Int32 → Int32 → Int32 → Int32 → cf_O → Option cf_O} {v1 v2 v5 : Int32} {o r : cf_O} (h5 : o.1 5 = 0) (h : fM_rowLine_282 rc v1 v2 v5 o = some r) : r = fp (fp o 5 1) 6 v1 := by
  unfold fM_rowLine_282 fM_rowLine_283 at h
  rw [if_pos rfl] at h
  obtain ⟨x, hx, h⟩ := bd h
  rw [← Option.some.inj h]; exact fail_sp h5 hx
theorem r233_0 {rc : Nat → Int32 → Int32 → Int32 → Int32 → Int32 → Int32 → cf_O → Option cf_O} {v1 v2 v5 : Int32} {o r : cf_O} (h5 : o.1 5 = 0) (h : fM_rowLine_233 rc v1 v2 0 v5 o = some r) : r = fp (fp o 5 1) 6 v1 := by
  unfold fM_rowLine_233 at h
  rw [if_pos rfl] at h
  exact r283_0 h5 h
theorem r154_0 {fuel : Nat} {v1 v2 v3 v5 : Int32} {o r : cf_O} (h5 : o.1 5 = 0) (h : fM_rowLine_154 (gM_rowLine fuel) v1 v2 v3 v5 0 o = some r) : r = fp (fp o 5 1) 6 v1 := by
  unfold fM_rowLine_154 at h
  have h := (ifn h).2
  rw [opk] at h
  cases fuel with
  | zero => cases h
  | succ fuel =>
    have h : fM_rowLine_164 (gM_rowLine fuel) v1 v2 v3 0 v5 (o.2.1 8 (0 : Int32).toNatClampNeg) o = some r := h
    unfold fM_rowLine_164 at h
    have h := (ifn h).2
    rw [opk] at h
    rcases ifc h with ⟨_, h⟩ | ⟨_, h⟩
    · exact r233_0 h5 h
    · rw [if_pos rfl] at h
      exact r233_0 h5 h
theorem r283_1 {sg : Nat → Int32} {n m j c : Nat} {rc : Nat → Int32 → Int32 → Int32 → Int32 → Int32 → Int32 → cf_O → Option cf_O} {v1 v2 v5 : Int32} {o r : cf_O} (hs : o.2.1 1 = sg) (ej : v2.toInt = (j : Int)) (j30 : j < 30) (ec : (o.2.1 22 j).toInt = (c : Int)) (c16 : c < 16) (e0 : (o.2.1 8 0).toInt = wf sg n m 0) (el : (o.2.1 8 v5.toNatClampNeg).toInt = wf sg n m (nW sg n m - 1)) (h : fM_rowLine_278 rc v1 v2 v5 o = some r) : AddR sg n o r j c m := by
  unfold fM_rowLine_278 fM_rowLine_283 at h
  rw [if_neg (by decide)] at h
  have h := (ifn h).2
  have h := (ifn h).2
  rw [opk] at h
  have li : (o.2.1 8 v5.toNatClampNeg).toNatClampNeg = (wf sg n m (nW sg n m - 1)).toNat := by have := tn_n (o.2.1 8 v5.toNatClampNeg); have := wf_0 (sg := sg) (n := n) (m := m) (i := nW sg n m - 1); omega
  rw [hs, li] at h
  rcases ifc h with ⟨a, h⟩ | ⟨a, h⟩
  · have a : eS sg n m = 49 := c_eq a
    exact r324 ej j30 ec c16 e0 (by rw [vb_1]; unfold eB; rw [if_pos a]; rfl) h
  · have a : ¬ eS sg n m = 49 := c_ne a
    exact r324 ej j30 ec c16 e0 (by rw [vb_0]; unfold eB; rw [if_neg a]; rfl) h
theorem r233_1 {sg : Nat → Int32} {n m j c : Nat} {rl : Nat → Nat} {rc : Nat → Int32 → Int32 → Int32 → Int32 → Int32 → Int32 → cf_O → Option cf_O} {v1 v2 v4 v5 : Int32} {o r : cf_O} {P : Prop} (h5 : o.1 5 = 0) (hs : o.2.1 1 = sg) (ej : v2.toInt = (j : Int)) (j30 : j < 30) (KR : KRr sg n o j c rl) (c16 : c < 16) (e0 : (o.2.1 8 0).toInt = wf sg n m 0) (el : (o.2.1 8 v5.toNatClampNeg).toInt = wf sg n m (nW sg n m - 1)) (hB : eS sg n m = 48 ∨ eS sg n m = 49) (hR : 0 < c → eS sg n (rl 0) = 48 ∨ eS sg n (rl 0) = 49) (hv : Yn v4 P) (h : fM_rowLine_233 rc v1 v2 v4 v5 o = some r) : ((P ∧ (c = 0 ∨ eS sg n m = eS sg n (rl 0))) ∧ AddR sg n o r j c m) ∨ (¬ (P ∧ (c = 0 ∨ eS sg n m = eS sg n (rl 0))) ∧ r = fp (fp o 5 1) 6 v1) := by
  rcases ifc h with ⟨a, h⟩ | ⟨a, h⟩
  · exact Or.inr ⟨fun z => Yn_0 hv a z.1, r283_0 h5 h⟩
  have p := Yn_1 hv a
  have vi : v2.toNatClampNeg = j := by have := tn_n v2; omega
  obtain ⟨k1, k2, k3⟩ := KR
  have h := (ifn h).2
  rw [vi] at h
  rcases ifc h with ⟨b, h⟩ | ⟨b, h⟩
  · have b : (o.2.1 22 j).toInt = 0 := c_eq b
    exact Or.inl ⟨⟨p, Or.inl (by omega)⟩, r283_1 hs ej j30 k1 c16 e0 el h⟩
  have b : ¬ (o.2.1 22 j).toInt = 0 := c_ne b
  have c0 : 0 < c := by omega
  have k3 := k3 c0
  have hR := hR c0
  have h := (ifn h).2
  have h := (ifn h).2
  have h := (ifn h).2
  have li : (o.2.1 8 v5.toNatClampNeg).toNatClampNeg = (wf sg n m (nW sg n m - 1)).toNat := by have := tn_n (o.2.1 8 v5.toNatClampNeg); have := wf_0 (sg := sg) (n := n) (m := m) (i := nW sg n m - 1); omega
  rw [hs, li] at h
  have y8 : ∀ s : Int32, fM_rowLine_275 rc v1 v2 v5 (o.2.1 24 j) s o = some r → (s.toInt = eB sg n m) → ((P ∧ (c = 0 ∨ eS sg n m = eS sg n (rl 0))) ∧ AddR sg n o r j c m) ∨ (¬ (P ∧ (c = 0 ∨ eS sg n m = eS sg n (rl 0))) ∧ r = fp (fp o 5 1) 6 v1) := fun s h es => by
    rcases ifc h with ⟨d, h⟩ | ⟨d, h⟩
    · have d : eB sg n (rl 0) = eB sg n m := by rw [← k3, ← es, d]
      refine Or.inl ⟨⟨p, Or.inr ?_⟩, r283_1 hs ej j30 k1 c16 e0 el h⟩
      unfold eB at d
      by_cases q1 : eS sg n (rl 0) = 49
      · rw [if_pos q1] at d
        by_cases q2 : eS sg n m = 49
        · rw [q1, q2]
        · rw [if_neg q2] at d; exact absurd d (by decide)
      · rw [if_neg q1] at d
        by_cases q2 : eS sg n m = 49
        · rw [if_pos q2] at d; exact absurd d (by decide)
        · omega
    · refine Or.inr ⟨fun z => d (Int32.toInt_inj.mp ?_), r283_0 h5 h⟩
      rw [k3, es]
      have e := z.2.resolve_left (by omega)
      unfold eB
      rw [e]
  rcases ifc h with ⟨d, h⟩ | ⟨d, h⟩
  · have d : eS sg n m = 49 := c_eq d
    exact y8 1 h (by unfold eB; rw [if_pos d]; rfl)
  · have d : ¬ eS sg n m = 49 := c_ne d
    exact y8 0 h (by unfold eB; rw [if_neg d]; rfl)
theorem rowLine_go {sg : Nat → Int32} {n m j c : Nat} {rl : Nat → Nat} {v1 v2 v3 v5 : Int32} {o : cf_O} (h5 : o.1 5 = 0) (hs : o.2.1 1 = sg) (ej : v2.toInt = (j : Int)) (j30 : j < 30) (KR : KRr sg n o j c rl) (c16 : c < 16) (e0 : (o.2.1 8 0).toInt = wf sg n m 0) (t0 : (o.2.1 9 0).toInt = wt sg n m 0) (tb : wt sg n m 0 ≤ 1600) (el : (o.2.1 8 v5.toNatClampNeg).toInt = wf sg n m (nW sg n m - 1)) (hB : eS sg n m = 48 ∨ eS sg n m = 49) (hR : 0 < c → eS sg n (rl 0) = 48 ∨ eS sg n (rl 0) = 49) : ∀ (fuel : Nat) (v4 v6 : Int32) (r : cf_O), wf sg n m 0 ≤ v6.toInt → v6.toInt ≤ wt sg n m 0 → Yn v4 (v3.toInt ≤ 0 ∨ ∀ k : Nat, wf sg n m 0 + (k : Int) < v6.toInt → aSg (sg ((wf sg n m 0).toNat + k)).toInt) → gM_rowLine fuel 0 v1 v2 v3 v4 v5 v6 o = some r → (((v3.toInt ≤ 0 ∨ ∀ k : Nat, wf sg n m 0 + (k : Int) < wt sg n m 0 → aSg (sg ((wf sg n m 0).toNat + k)).toInt) ∧ (c = 0 ∨ eS sg n m = eS sg n (rl 0))) ∧ AddR sg n o r j c m) ∨ (¬ ((v3.toInt ≤ 0 ∨ ∀ k : Nat, wf sg n m 0 + (k : Int) < wt sg n m 0 → aSg (sg ((wf sg n m 0).toNat + k)).toInt) ∧ (c = 0 ∨ eS sg n m = eS sg n (rl 0))) ∧ r = fp (fp o 5 1) 6 v1)
  | 0, v4, v6, r, h0, h1, hv, h => by cases h
  | fuel + 1, v4, v6, r, h0, h1, hv, h => by
    have f0 := wf_0 (sg := sg) (n := n) (m := m) (i := 0)
    have h : fM_rowLine_164 (gM_rowLine fuel) v1 v2 v3 v4 v5 v6 o = some r := h
    unfold fM_rowLine_164 at h
    have h := (ifn h).2
    rw [opk] at h
    rcases ifc h with ⟨a, h⟩ | ⟨a, h⟩
    · have a := c_le a
      have a : (o.2.1 9 0).toInt ≤ v6.toInt := a
      rw [show v6.toInt = wt sg n m 0 from by omega] at hv
      exact r233_1 h5 hs ej j30 KR c16 e0 el hB hR hv h
    have a := c_nle a
    have a : v6.toInt < (o.2.1 9 0).toInt := a
    rcases ifc h with ⟨b, h⟩ | ⟨b, h⟩
    · have nv := Yn_0 hv b
      rw [b] at h
      refine Or.inr ⟨fun z => nv ?_, r233_0 h5 h⟩
      rcases z.1 with z | z
      · exact Or.inl z
      · exact Or.inr (fun k hk => z k (by omega))
    have pv := Yn_1 hv b
    rcases ifc h with ⟨d, h⟩ | ⟨d, h⟩
    · have d : v3.toInt ≤ 0 := c_le d
      exact r233_1 h5 hs ej j30 KR c16 e0 el hB hR (Yn_i hv ⟨fun _ => Or.inl d, fun _ => Or.inl d⟩) h
    have d : 0 < v3.toInt := c_nle d
    have pv := pv.resolve_left (by omega)
    have vi : v6.toNatClampNeg = (wf sg n m 0).toNat + (v6.toInt - wf sg n m 0).toNat := by have := tn_n v6; omega
    have e6 := p_1 (v := v6) (by omega) (by omega)
    have ye : aSg (sg v6.toNatClampNeg).toInt → gM_rowLine fuel 0 v1 v2 v3 1 v5 (v6 + 1) o = some r → (((v3.toInt ≤ 0 ∨ ∀ k : Nat, wf sg n m 0 + (k : Int) < wt sg n m 0 → aSg (sg ((wf sg n m 0).toNat + k)).toInt) ∧ (c = 0 ∨ eS sg n m = eS sg n (rl 0))) ∧ AddR sg n o r j c m) ∨ (¬ ((v3.toInt ≤ 0 ∨ ∀ k : Nat, wf sg n m 0 + (k : Int) < wt sg n m 0 → aSg (sg ((wf sg n m 0).toNat + k)).toInt) ∧ (c = 0 ∨ eS sg n m = eS sg n (rl 0))) ∧ r = fp (fp o 5 1) 6 v1) := fun q h => by
      refine rowLine_go h5 hs ej j30 KR c16 e0 t0 tb el hB hR fuel 1 (v6 + 1) r (by omega) (by omega) (Or.inl ⟨rfl, Or.inr (fun k hk => ?_)⟩) h
      by_cases ek : k = (v6.toInt - wf sg n m 0).toNat
      · rw [ek, ← vi]; exact q
      · exact pv k (by omega)
    have h := (ifn h).2
    rw [opk, hs] at h
    rcases ifc h with ⟨e, h⟩ | ⟨e1, h⟩
    · exact ye (Or.inl (c_eq e)) h
    have h := (ifn h).2
    rw [opk] at h
    rcases ifc h with ⟨e, h⟩ | ⟨e2, h⟩
    · exact ye (Or.inr (Or.inl (c_eq e))) h
    have h := (ifn h).2
    rw [opk] at h
    rcases ifc h with ⟨e, h⟩ | ⟨e3, h⟩
    · exact ye (Or.inr (Or.inr (c_eq e))) h
    refine rowLine_go h5 hs ej j30 KR c16 e0 t0 tb el hB hR fuel 0 (v6 + 1) r (by omega) (by omega) (Or.inr ⟨rfl, fun z => ?_⟩) h
    rcases z with z | z
    · omega
    · have y := z (v6.toInt - wf sg n m 0).toNat (by omega)
      rw [← vi] at y
      rcases y with y | y | y
      · exact c_ne e1 y
      · exact c_ne e2 y
      · exact c_ne e3 y
theorem rowLine_sp {sg : Nat → Int32} {n : Int} {m t : Nat} {tL rc : Nat → Nat} {rL : Nat → Nat → Nat} {o r : cf_O} {v1 : Int32} (ho : okO I_M o) (h5 : o.1 5 = 0) (hs : o.2.1 1 = sg) (hT : TK sg n (LPq sg n.toNat m) (o.1 7).toInt (o.2.1 8) (o.2.1 9)) (h7 : 0 < (o.1 7).toInt) (et : (o.1 17).toInt = (t : Int)) (t30 : t ≤ 30) (hK : ∀ j : Nat, j < t → (KRt sg n.toNat o j (tL j) ∧ KRr sg n.toNat o j (rc j) (rL j)) ∧ Nms sg n.toNat (tL j) 6 ∧ rc j ≤ 16 ∧ ∀ r : Nat, r < rc j → rwS sg n.toNat (tL j) (rL j 0) (rL j r)) (h : fM_rowLine v1 o = some r) : (¬ rowOk sg n.toNat m t tL rc rL ∧ r = fp (fp o 5 1) 6 v1) ∨ (rowOk sg n.toNat m t tL rc rL ∧ AddR sg n.toNat o r (t - 1) (rc (t - 1)) m) := by
  have h : fM_rowLine_0 (gM_rowLine cfFU) v1 o = some r := h
  generalize cfFU = fu at h
  have b7 : (0 : Int) ≤ (o.1 7).toInt ∧ (o.1 7).toInt ≤ 801 := ho.1 7
  have ew := nW_e (Tn_w hT (by omega))
  have es : ((o.1 7) - 1).toInt = (o.1 7).toInt - 1 := i_sub' b7.1 (by omega) (by decide) (by decide)
  have li : ((o.1 7) - 1).toNatClampNeg = nW sg n.toNat m - 1 := by have := tn_n ((o.1 7) - 1); omega
  have wl := Tw hT (i := nW sg n.toNat m - 1) (by omega)
  have w0 := Tw hT (i := 0) (by omega)
  have e17 : ((o.1 17) - 1).toInt = (t : Int) - 1 := by rw [Int32.toInt_sub, et, i_bm (by rw [show (1 : Int32).toInt = 1 from rfl]; omega) (by rw [show (1 : Int32).toInt = 1 from rfl]; omega)]; rfl
  have z0 : (0 : Int32).toInt = 0 := rfl
  -- a bad row, from each of the places
  have b121 : ∀ v2 v3 v5 : Int32, fM_rowLine_120 (gM_rowLine fu) v1 v2 v3 v5 o = some r → r = fp (fp o 5 1) 6 v1 := fun v2 v3 v5 h => by
    unfold fM_rowLine_120 fM_rowLine_121 at h
    rw [if_pos rfl] at h
    exact r154_0 h5 h
  have b59 : ∀ v2 v3 : Int32, fM_rowLine_59 (gM_rowLine fu) v1 v2 v3 o = some r → r = fp (fp o 5 1) 6 v1 := fun v2 v3 h => by
    unfold fM_rowLine_59 fM_rowLine_60 at h
    rw [opk, if_pos rfl] at h
    exact b121 v2 v3 _ h
  unfold fM_rowLine_0 at h
  rw [opk] at h
  rcases ifc h with ⟨a, h⟩ | ⟨a, h⟩
  · have a := c_le a
    have tp : 0 < t := by have a : (0 : Int32).toInt ≤ ((o.1 17) - 1).toInt := a; omega
    have ti : ((o.1 17) - 1).toNatClampNeg = t - 1 := by have := tn_n ((o.1 17) - 1); omega
    obtain ⟨⟨⟨k1, k2, k3⟩, KR⟩, N, c16, hr⟩ := hK (t - 1) (by omega)
    have n2 := N.1
    have n7 := N.2.1
    have h := (ifn h).2
    rw [ti, opk, opk] at h
    unfold fM_rowLine_23 at h
    have em : (o.2.1 19 (t - 1) - 1).toInt = (nW sg n.toNat (tL (t - 1)) : Int) - 2 := by rw [Int32.toInt_sub, i_bm (by rw [show (1 : Int32).toInt = 1 from rfl]; omega) (by rw [show (1 : Int32).toInt = 1 from rfl]; omega), show (1 : Int32).toInt = 1 from rfl]; omega
    rcases ifc h with ⟨b, _⟩ | ⟨_, h⟩
    · have b : ((o.1 17) - 1).toInt < 0 := c_lt b
      omega
    have h := (ifn h).2
    rw [ti, opk] at h
    rcases ifc h with ⟨b, h⟩ | ⟨b, h⟩
    · have b : 16 ≤ (o.2.1 22 (t - 1)).toInt := c_le b
      exact Or.inl ⟨fun z => by have := z.2.1; have := KR.1; omega, b59 _ _ h⟩
    have b : (o.2.1 22 (t - 1)).toInt < 16 := c_nle b
    have c16 : rc (t - 1) < 16 := by have := KR.1; omega
    -- with the right number of words
    have g60 : nW sg n.toNat m = (if nW sg n.toNat (tL (t - 1)) = 2 then 1 else 2) → fM_rowLine_60 (gM_rowLine fu) v1 ((o.1 17) - 1) (o.2.1 19 (t - 1) - 1) 1 o = some r → (¬ rowOk sg n.toNat m t tL rc rL ∧ r = fp (fp o 5 1) 6 v1) ∨ (rowOk sg n.toNat m t tL rc rL ∧ AddR sg n.toNat o r (t - 1) (rc (t - 1)) m) := fun hw h => by
      unfold fM_rowLine_60 at h
      rw [opk, if_neg (by decide)] at h
      have h := (ifn h).2
      rw [opk] at h
      have h := (ifn h).2
      rw [opk, opk, li] at h
      have b9 : (o.2.1 9 (nW sg n.toNat m - 1)).toInt ≤ 1600 := (ho.2 9 _).2
      have b8 : (0 : Int) ≤ (o.2.1 8 (nW sg n.toNat m - 1)).toInt := (ho.2 8 _).1
      have e98 : (o.2.1 9 (nW sg n.toNat m - 1) - o.2.1 8 (nW sg n.toNat m - 1)).toInt = wt sg n.toNat m (nW sg n.toNat m - 1) - wf sg n.toNat m (nW sg n.toNat m - 1) := by
        rw [i_sub' (by rw [wl.2.1] at b9 ⊢; rw [wl.1] at b8; omega) b9 b8 (by rw [wl.1]; rw [wl.2.1] at b9; omega), wl.1, wl.2.1]
      rcases ifc h with ⟨d, h⟩ | ⟨d, h⟩
      · have d : (o.2.1 9 (nW sg n.toNat m - 1) - o.2.1 8 (nW sg n.toNat m - 1)).toInt = 1 := c_eq d
        have h := (ifn h).2
        rw [opk] at h
        have h := (ifn h).2
        rw [opk] at h
        obtain ⟨q, g, h⟩ := bd h
        have g := in_sp g
        have lj : (o.2.1 8 (nW sg n.toNat m - 1)).toNatClampNeg = (wf sg n.toNat m (nW sg n.toNat m - 1)).toNat := by have := tn_n (o.2.1 8 (nW sg n.toNat m - 1)); omega
        rw [hs, lj] at g
        have g : Yn q (48 ≤ eS sg n.toNat m ∧ eS sg n.toNat m ≤ 49) := g
        rcases ifc h with ⟨f, h⟩ | ⟨f, h⟩
        · refine Or.inl ⟨fun z => Yn_0 g f ?_, b121 _ _ _ h⟩
          have := z.2.2.2.1.2; omega
        have g := Yn_1 g f
        have hB : eS sg n.toNat m = 48 ∨ eS sg n.toNat m = 49 := by omega
        have el : (o.2.1 8 ((o.1 7) - 1).toNatClampNeg).toInt = wf sg n.toNat m (nW sg n.toNat m - 1) := by rw [li]; exact wl.1
        have hR : 0 < rc (t - 1) → eS sg n.toNat (rL (t - 1) 0) = 48 ∨ eS sg n.toNat (rL (t - 1) 0) = 49 := fun q => (hr 0 q).2.1
        have b90 : (o.2.1 9 0).toInt ≤ 1600 := (ho.2 9 _).2
        have b80 : (0 : Int) ≤ (o.2.1 8 0).toInt := (ho.2 8 _).1
        -- the signs of the row
        have go : (nW sg n.toNat (tL (t - 1)) = 2 ∨ wt sg n.toNat m 0 - wf sg n.toNat m 0 + 2 = (nW sg n.toNat (tL (t - 1)) : Int)) → fM_rowLine_154 (gM_rowLine fu) v1 ((o.1 17) - 1) (o.2.1 19 (t - 1) - 1) ((o.1 7) - 1) 1 o = some r → (¬ rowOk sg n.toNat m t tL rc rL ∧ r = fp (fp o 5 1) 6 v1) ∨ (rowOk sg n.toNat m t tL rc rL ∧ AddR sg n.toNat o r (t - 1) (rc (t - 1)) m) := fun hl h => by
          unfold fM_rowLine_154 at h
          have h := (ifn h).2
          rw [opk, show (0 : Int32).toNatClampNeg = 0 from by decide] at h
          have R := rowLine_go (n := n.toNat) (m := m) (j := t - 1) (c := rc (t - 1)) (rl := rL (t - 1)) (v1 := v1) (v2 := (o.1 17) - 1) (v3 := o.2.1 19 (t - 1) - 1) (v5 := (o.1 7) - 1) h5 hs (by omega) (by omega) KR c16 w0.1 w0.2.1 (by rw [w0.2.1] at b90; exact b90) el hB hR fu 1 (o.2.1 8 0) r (by rw [w0.1]; exact Int.le_refl _) (by rw [w0.1]; have := w0.2.2; omega) (Or.inl ⟨rfl, Or.inr (fun k hk => absurd hk (by rw [w0.1]; omega))⟩) h
          rw [em] at R
          rcases R with ⟨q, A⟩ | ⟨q, e⟩
          · refine Or.inr ⟨⟨tp, c16, hw, ⟨by omega, hB⟩, ?_, q.2⟩, A⟩
            by_cases y : nW sg n.toNat (tL (t - 1)) = 2
            · exact Or.inl y
            · have hl := hl.resolve_left y
              have q1 := q.1.resolve_left (by omega)
              exact Or.inr ⟨hl, fun k hk => q1 k (by omega)⟩
          · refine Or.inl ⟨fun z => q ⟨?_, z.2.2.2.2.2⟩, e⟩
            rcases z.2.2.2.2.1 with y | y
            · exact Or.inl (by omega)
            · exact Or.inr (fun k hk => y.2 k (by have := y.1; omega))
        unfold fM_rowLine_121 at h
        rw [if_neg (by decide)] at h
        rcases ifc h with ⟨y, h⟩ | ⟨y, h⟩
        · have y : (o.2.1 19 (t - 1) - 1).toInt = 0 := c_eq y
          exact go (Or.inl (by omega)) h
        have y : ¬ (o.2.1 19 (t - 1) - 1).toInt = 0 := c_ne y
        have h := (ifn h).2
        rw [opk] at h
        have h := (ifn h).2
        rw [opk, opk] at h
        have e90 : (o.2.1 9 0 - o.2.1 8 0).toInt = wt sg n.toNat m 0 - wf sg n.toNat m 0 := by
          rw [i_sub' (by rw [w0.2.1] at b90 ⊢; rw [w0.1] at b80; have := w0.2.2; omega) b90 b80 (by rw [w0.1]; rw [w0.2.1] at b90; have := w0.2.2; omega), w0.1, w0.2.1]
        rcases ifc h with ⟨v, h⟩ | ⟨v, h⟩
        · have v : (o.2.1 9 0 - o.2.1 8 0).toInt = (o.2.1 19 (t - 1) - 1).toInt := c_eq v
          exact go (Or.inr (by omega)) h
        · have v : ¬ (o.2.1 9 0 - o.2.1 8 0).toInt = (o.2.1 19 (t - 1) - 1).toInt := c_ne v
          refine Or.inl ⟨fun z => ?_, r154_0 h5 h⟩
          rcases z.2.2.2.2.1 with u | u
          · omega
          · have := u.1; omega
      · have d : ¬ (o.2.1 9 (nW sg n.toNat m - 1) - o.2.1 8 (nW sg n.toNat m - 1)).toInt = 1 := c_ne d
        exact Or.inl ⟨fun z => d (by rw [e98]; exact z.2.2.2.1.1), b121 _ _ _ h⟩
    rcases ifc h with ⟨d, h⟩ | ⟨d, h⟩
    · have d : (o.2.1 19 (t - 1) - 1).toInt ≤ 0 := c_le d
      have y : nW sg n.toNat (tL (t - 1)) = 2 := by omega
      unfold fM_rowLine_52 at h
      rcases ifc h with ⟨e, h⟩ | ⟨e, h⟩
      · have e : (o.1 7).toInt = 1 := c_eq e
        exact g60 (by rw [if_pos y]; omega) h
      · have e : ¬ (o.1 7).toInt = 1 := c_ne e
        refine Or.inl ⟨fun z => ?_, b59 _ _ h⟩
        have u := z.2.2.1
        rw [if_pos y] at u; omega
    · have d : 0 < (o.2.1 19 (t - 1) - 1).toInt := c_nle d
      have y : ¬ nW sg n.toNat (tL (t - 1)) = 2 := by omega
      unfold fM_rowLine_52 at h
      rcases ifc h with ⟨e, h⟩ | ⟨e, h⟩
      · have e : (o.1 7).toInt = 2 := c_eq e
        exact g60 (by rw [if_neg y]; omega) h
      · have e : ¬ (o.1 7).toInt = 2 := c_ne e
        refine Or.inl ⟨fun z => ?_, b59 _ _ h⟩
        have u := z.2.2.1
        rw [if_neg y] at u; omega
  · have a := c_nle a
    have a : ((o.1 17) - 1).toInt < 0 := a
    unfold fM_rowLine_23 at h
    rcases ifc h with ⟨_, h⟩ | ⟨b, _⟩
    · exact Or.inl ⟨fun z => by have := z.1; omega, b59 _ _ h⟩
    · have b : (0 : Int) ≤ ((o.1 17) - 1).toInt := c_nlt b
      omega
