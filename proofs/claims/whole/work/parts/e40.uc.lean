theorem pv_z {lo : Nat → Int32} {b l : Nat} : ∀ {m : Nat}, m ≤ b → pv lo b l m = 0
  | 0, _ => rfl
  | m + 1, h => by
    show (if b ≤ m ∧ (lo m).toInt = (l : Int) then m else pv lo b l m) = 0
    rw [if_neg (fun q => by omega)]
    exact pv_z (by omega)
theorem fi16_go {v : Int32} : ∀ (fuel : Nat) (v2 : Int32) (o r : cf_O), 0 ≤ v2.toInt → v2.toInt ≤ 30 → (∀ j : Nat, (j : Int) < v2.toInt → o.2.1 16 j = v) → gJArrays_fill_AII_Nl16 fuel 0 v v2 30 o = some r → Fr (fr_M [] [16] []) o r ∧ ∀ j : Nat, j < 30 → r.2.1 16 j = v
  | 0, v2, o, r, h0, h1, hz, h => by cases h
  | fuel + 1, v2, o, r, h0, h1, hz, h => by
    rcases ifc h with ⟨a, h⟩ | ⟨a, h⟩
    · have a : (30 : Int) ≤ v2.toInt := c_le a
      rw [← Option.some.inj h]
      exact ⟨fr_rfl, fun j hj => hz j (by omega)⟩
    · have a : v2.toInt < 30 := c_nle a
      have vi : v2.toNatClampNeg = v2.toInt.toNat := by have := tn_n v2; omega
      have e2 := p_1 (v := v2) h0 (by omega)
      have h := (ifn h).2
      rw [vi] at h
      have hz' : ∀ j : Nat, (j : Int) < (v2 + 1).toInt → (xp o 16 v2.toInt.toNat v).2.1 16 j = v := fun j hj => by
        show upd (o.2.1 16) v2.toInt.toNat v j = v
        by_cases e : j = v2.toInt.toNat
        · rw [e, up_s]
        · rw [up_o e]; exact hz j (by omega)
      obtain ⟨f, q⟩ := fi16_go fuel (v2 + 1) (xp o 16 v2.toInt.toNat v) r (by omega) (by omega) hz' h
      exact ⟨fr_tr (fr_xp fr_rfl rfl) f rfl rfl rfl, q⟩
theorem fi8_go {v : Int32} : ∀ (fuel : Nat) (v2 : Int32) (o r : cf_O), 0 ≤ v2.toInt → v2.toInt ≤ 418 → (∀ j : Nat, (j : Int) < v2.toInt → o.2.1 8 j = v) → gJArrays_fill_AII_Gr8 fuel 0 v v2 418 o = some r → Fr (fr_M [] [8] []) o r ∧ ∀ j : Nat, j < 418 → r.2.1 8 j = v
  | 0, v2, o, r, h0, h1, hz, h => by cases h
  | fuel + 1, v2, o, r, h0, h1, hz, h => by
    rcases ifc h with ⟨a, h⟩ | ⟨a, h⟩
    · have a : (418 : Int) ≤ v2.toInt := c_le a
      rw [← Option.some.inj h]
      exact ⟨fr_rfl, fun j hj => hz j (by omega)⟩
    · have a : v2.toInt < 418 := c_nle a
      have vi : v2.toNatClampNeg = v2.toInt.toNat := by have := tn_n v2; omega
      have e2 := p_1 (v := v2) h0 (by omega)
      have h := (ifn h).2
      rw [vi] at h
      have hz' : ∀ j : Nat, (j : Int) < (v2 + 1).toInt → (xp o 8 v2.toInt.toNat v).2.1 8 j = v := fun j hj => by
        show upd (o.2.1 8) v2.toInt.toNat v j = v
        by_cases e : j = v2.toInt.toNat
        · rw [e, up_s]
        · rw [up_o e]; exact hz j (by omega)
      obtain ⟨f, q⟩ := fi8_go fuel (v2 + 1) (xp o 8 v2.toInt.toNat v) r (by omega) (by omega) hz' h
      exact ⟨fr_tr (fr_xp fr_rfl rfl) f rfl rfl rfl, q⟩
theorem fi6_go {v : Int32} : ∀ (fuel : Nat) (v2 : Int32) (o r : cf_O), 0 ≤ v2.toInt → v2.toInt ≤ 209 → (∀ j : Nat, (j : Int) < v2.toInt → o.2.1 6 j = v) → gJArrays_fill_AII_Gr6 fuel 0 v v2 209 o = some r → Fr (fr_M [] [6] []) o r ∧ ∀ j : Nat, j < 209 → r.2.1 6 j = v
  | 0, v2, o, r, h0, h1, hz, h => by cases h
  | fuel + 1, v2, o, r, h0, h1, hz, h => by
    rcases ifc h with ⟨a, h⟩ | ⟨a, h⟩
    · have a : (209 : Int) ≤ v2.toInt := c_le a
      rw [← Option.some.inj h]
      exact ⟨fr_rfl, fun j hj => hz j (by omega)⟩
    · have a : v2.toInt < 209 := c_nle a
      have vi : v2.toNatClampNeg = v2.toInt.toNat := by have := tn_n v2; omega
      have e2 := p_1 (v := v2) h0 (by omega)
      have h := (ifn h).2
      rw [vi] at h
      have hz' : ∀ j : Nat, (j : Int) < (v2 + 1).toInt → (xp o 6 v2.toInt.toNat v).2.1 6 j = v := fun j hj => by
        show upd (o.2.1 6) v2.toInt.toNat v j = v
        by_cases e : j = v2.toInt.toNat
        · rw [e, up_s]
        · rw [up_o e]; exact hz j (by omega)
      obtain ⟨f, q⟩ := fi6_go fuel (v2 + 1) (xp o 6 v2.toInt.toNat v) r (by omega) (by omega) hz' h
      exact ⟨fr_tr (fr_xp fr_rfl rfl) f rfl rfl rfl, q⟩
theorem bg34_go : ∀ (fuel : Nat) (v2 : Int32) (o r : cf_O), 0 ≤ v2.toInt → v2.toInt ≤ 210 → (∀ j : Nat, (j : Int) < v2.toInt → o.2.1 34 j = 0) → gM_begin fuel 0 v2 o = some r → Fr (fr_M [] [34] []) o r ∧ ∀ j : Nat, j < 210 → r.2.1 34 j = 0
  | 0, v2, o, r, h0, h1, hz, h => by cases h
  | fuel + 1, v2, o, r, h0, h1, hz, h => by
    rcases ifc h with ⟨a, h⟩ | ⟨a, h⟩
    · have a : (210 : Int) ≤ v2.toInt := c_le a
      rw [← Option.some.inj h]
      exact ⟨fr_rfl, fun j hj => hz j (by omega)⟩
    · have a : v2.toInt < 210 := c_nle a
      have vi : v2.toNatClampNeg = v2.toInt.toNat := by have := tn_n v2; omega
      have e2 := p_1 (v := v2) h0 (by omega)
      have h := (ifn h).2
      rw [vi] at h
      have hz' : ∀ j : Nat, (j : Int) < (v2 + 1).toInt → (xp o 34 v2.toInt.toNat 0).2.1 34 j = 0 := fun j hj => by
        show upd (o.2.1 34) v2.toInt.toNat 0 j = 0
        by_cases e : j = v2.toInt.toNat
        · rw [e, up_s]
        · rw [up_o e]; exact hz j (by omega)
      obtain ⟨f, q⟩ := bg34_go fuel (v2 + 1) (xp o 34 v2.toInt.toNat 0) r (by omega) (by omega) hz' h
      exact ⟨fr_tr (fr_xp fr_rfl rfl) f rfl rfl rfl, q⟩
theorem begin_sp {v1 : Int32} {o r : cf_O} (h : fM_begin v1 o = some r) : Fr (fr_M [31, 36, 37] [34] []) o r ∧ r.1 31 = 0 ∧ r.1 36 = 0 ∧ r.1 37 = v1 ∧ ∀ j : Nat, j < 210 → r.2.1 34 j = 0 := by
  unfold fM_begin fM_begin_0 at h
  rw [opk, opk, opk] at h
  obtain ⟨f, q⟩ := bg34_go cfFU 0 (fp (fp (fp o 31 0) 37 v1) 36 0) r (by decide) (by decide) (fun j hj => absurd hj (by rw [show (0 : Int32).toInt = 0 from rfl]; omega)) h
  refine ⟨fr_tr (fr_fp (fr_fp (fr_fp fr_rfl rfl) rfl) rfl) f rfl rfl rfl, ?_, ?_, ?_, q⟩
  · rw [f.1 31 rfl]; rfl
  · rw [f.1 36 rfl]; rfl
  · rw [f.1 37 rfl]; rfl
theorem restart_sp {v1 v2 : Int32} {o r : cf_O} (h : fGr_restart v1 v2 o = some r) : Fr (fr_M [0, 1, 2, 3] [6, 8] []) o r ∧ r.1 0 = v1 ∧ r.1 1 = v2 ∧ r.1 2 = 0 ∧ r.1 3 = 0 ∧ (∀ j : Nat, j < 418 → r.2.1 8 j = 0) ∧ ∀ j : Nat, j < 209 → r.2.1 6 j = 0 := by
  unfold fGr_restart fGr_restart_0 at h
  rw [opk, opk, opk, opk] at h
  obtain ⟨a, ha, h⟩ := bd h
  obtain ⟨c, hc, h⟩ := bd h
  have ec : c = r := Option.some.inj h
  subst ec
  have ha : gJArrays_fill_AII_Gr8 cfFU 0 0 0 418 (fp (fp (fp (fp o 0 v1) 1 v2) 2 0) 3 0) = some a := ha
  have hc : gJArrays_fill_AII_Gr6 cfFU 0 0 0 209 a = some c := hc
  obtain ⟨f, q⟩ := fi8_go cfFU 0 (fp (fp (fp (fp o 0 v1) 1 v2) 2 0) 3 0) a (by decide) (by decide) (fun j hj => absurd hj (by rw [show (0 : Int32).toInt = 0 from rfl]; omega)) ha
  obtain ⟨f2, q2⟩ := fi6_go cfFU 0 a c (by decide) (by decide) (fun j hj => absurd hj (by rw [show (0 : Int32).toInt = 0 from rfl]; omega)) hc
  refine ⟨fr_tr (fr_tr (fr_fp (fr_fp (fr_fp (fr_fp fr_rfl rfl) rfl) rfl) rfl) f rfl rfl rfl) f2 rfl rfl rfl, ?_, ?_, ?_, ?_, fun j hj => ?_, q2⟩
  · rw [f2.1 0 rfl, f.1 0 rfl]; rfl
  · rw [f2.1 1 rfl, f.1 1 rfl]; rfl
  · rw [f2.1 2 rfl, f.1 2 rfl]; rfl
  · rw [f2.1 3 rfl, f.1 3 rfl]; rfl
  · rw [f2.2.1 8 rfl]; exact q j hj
theorem nlfill_sp {o r : cf_O} (h : fJArrays_fill_AII_Nl16 (-1) o = some r) : Fr (fr_M [] [16] []) o r ∧ ∀ j : Nat, j < 30 → r.2.1 16 j = -1 := by
  have h : gJArrays_fill_AII_Nl16 cfFU 0 (-1) 0 30 o = some r := h
  exact fi16_go cfFU 0 o r (by decide) (by decide) (fun j hj => absurd hj (by rw [show (0 : Int32).toInt = 0 from rfl]; omega)) h
theorem Rg_0 {b : Nat} {gr om : cf_O} (b1 : 1 ≤ b) (b9 : b ≤ 9) (e31 : om.1 31 = 0) (e2 : gr.1 2 = 0) (e37 : (om.1 37).toInt = (b : Int)) (e0 : (gr.1 0).toInt + 1 = (b : Int)) (e36 : om.1 36 = gr.1 3) (h34 : ∀ k : Nat, k < 210 → om.2.1 34 k = 0) (h6 : ∀ k : Nat, k < 209 → gr.2.1 6 k = 0) (h8 : ∀ k : Nat, k < 418 → gr.2.1 8 k = 0) : Rg b 0 gr om := by
  refine ⟨⟨by rw [e31]; rfl, by rw [e2]; rfl, e37, e0, by omega, b1, b9⟩, fun g hg => absurd hg (Nat.not_lt_zero g), fun k hk => ?_, e36, ⟨fun l hl => ?_, fun g g1 g2 => absurd g2 (by omega)⟩, fun g hg => absurd hg (Nat.not_lt_zero g), fun g _ hg => absurd hg (Nat.not_lt_zero g)⟩
  · rw [h34 k (by omega), h6 k (by omega)]
    exact ⟨rfl, by decide, by decide⟩
  · rw [h8 l hl, pv_z (by omega)]; rfl
theorem bclr_go {t : Nat} {O : cf_O} (et : (O.1 17).toInt = (t : Int)) (t30 : t ≤ 30) : ∀ (fuel : Nat) (v1 : Int32) (o r : cf_O), Fr (fr_M [] [27] []) O o → 0 ≤ v1.toInt → v1.toInt ≤ (t : Int) → (∀ j : Nat, (j : Int) < v1.toInt → o.2.1 27 j = 0) → gM_build_ fuel 0 v1 o = some r → ∃ (f : Nat) (o' : cf_O), Fr (fr_M [] [27] []) O o' ∧ (∀ j : Nat, j < t → o'.2.1 27 j = 0) ∧ gM_build_ f 1 0 o' = some r
  | 0, v1, o, r, rO, h0, h1, hz, h => by cases h
  | fuel + 1, v1, o, r, rO, h0, h1, hz, h => by
    have e17 : (o.1 17).toInt = (t : Int) := by rw [rO.1 17 rfl]; exact et
    rcases ifc h with ⟨a, h⟩ | ⟨a, h⟩
    · have a := c_le a
      exact ⟨fuel, o, rO, fun j hj => hz j (by omega), h⟩
    · have a := c_nle a
      have vi : v1.toNatClampNeg = v1.toInt.toNat := by have := tn_n v1; omega
      have e2 := p_1 (v := v1) h0 (by omega)
      have h := (ifn h).2
      rw [vi, vb_0] at h
      have hz' : ∀ j : Nat, (j : Int) < (v1 + 1).toInt → (xp o 27 v1.toInt.toNat 0).2.1 27 j = 0 := fun j hj => by
        show upd (o.2.1 27) v1.toInt.toNat 0 j = 0
        by_cases e : j = v1.toInt.toNat
        · rw [e, up_s]
        · rw [up_o e]; exact hz j (by omega)
      exact bclr_go et t30 fuel (v1 + 1) (xp o 27 v1.toInt.toNat 0) r (fr_xp rO rfl) (by omega) (by omega) hz' h
theorem Dq_mk {w : Nat → Nat} {om : cf_O} {inp tabs : Int} {wi so : Nat → Int32} (i8 : inp ≤ 8) (hw : ∀ j : Nat, (j : Int) < tabs → (wi j).toInt = (w j : Int) ∧ ∀ k : Nat, k < w j → om.2.1 25 (6 * j + k) = so (6 * j + k)) : ∀ {m : Nat} {s : Int}, Dpt inp tabs wi so m s → Dq w om m s
  | 0, s, h => by
    have h : 0 ≤ s ∧ s < inp := h
    show s < 8
    omega
  | m + 1, s, h => by
    have h : (0 ≤ s ∧ s < inp) ∨ (8 ≤ s ∧ s - 8 < tabs ∧ ∀ k : Nat, (k : Int) < (wi (s - 8).toNat).toInt → Dpt inp tabs wi so m (so (6 * (s - 8).toNat + k)).toInt) := h
    rcases h with h | ⟨h1, h2, h3⟩
    · exact Or.inl (by omega)
    · refine Or.inr (fun k hk => ?_)
      obtain ⟨q1, q2⟩ := hw (s - 8).toNat (by omega)
      rw [q2 k hk]
      exact Dq_mk i8 hw (h3 k (by omega))
theorem TbS_mk {sg : Nat → Int32} {n : Nat} {x : NXq} {nl om : cf_O} (hs : om.2.1 1 = sg) (K : KRx sg n om x) (C : KCx sg n nl x) (P : PNx sg n x) (x3 : x.1 = 3) (hRf : Rf (om.2.1 22) (om.2.1 23) (om.2.1 19)) (G1 : ∀ j : Nat, j < x.2.2.2.1 → KGq sg n x.2.1 x.2.2.2.1 x.2.2.2.2.1 (om.2.1 25) j (nW sg n (x.2.2.2.2.1 j))) (G2 : ∀ j : Nat, j < x.2.2.2.1 → KGq sg n x.2.1 x.2.2.2.1 x.2.2.2.2.1 (nl.2.1 13) j (nW sg n (x.2.2.2.2.1 j))) (NT : ∀ j : Nat, j < x.2.2.2.1 → ¬ tU sg n x.2.1 x.2.2.2.1 x.2.2.2.2.1 j) : TbS sg (nW sg n x.2.1 - 1) x.2.2.2.1 (fun j => nW sg n (x.2.2.2.2.1 j) - 2) x.2.2.2.2.2.1 (fun j r => (wf sg n (x.2.2.2.2.2.2 j r) 0).toNat) (fun j => eB sg n (x.2.2.2.2.2.2 j 0)) nl om := by
  have h8 := (P.1 (by omega)).1
  obtain ⟨-, KI, KO, e17, KT⟩ := K
  obtain ⟨-, -, CI, CO, e6, CT⟩ := C
  refine ⟨hs, P.2.2.1, by have := h8.1; have := h8.2.1; omega, fun j hj => ?_, fun j r hj hr => ?_, fun j k hj hk => ?_, fun j hj => ?_⟩
  · obtain ⟨p1, -, p3, -⟩ := P.2.2.2.2 j hj
    have a1 := p1.1
    have a2 := p1.2.1
    have k1 := (KT j hj).1.2.1
    have k2 := (KT j hj).2.1
    have c1 := (CT j hj).1.2.1
    have c2 := (CT j hj).2.1
    exact ⟨by show nW sg n (x.2.2.2.2.1 j) - 2 ≤ 5; omega, p3, by show (om.2.1 19 j).toInt = ((nW sg n (x.2.2.2.2.1 j) - 2 : Nat) : Int) + 1; omega, by show (nl.2.1 8 j).toInt = ((nW sg n (x.2.2.2.2.1 j) - 2 : Nat) : Int); omega, k2, c2⟩
  · obtain ⟨p1, -, p3, p4⟩ := P.2.2.2.2 j hj
    have a1 := p1.1
    have k1 := (KT j hj).1.2.1
    have k2 := (KT j hj).2.1
    have k3 := (KT j hj).2.2.1 r hr
    have rr := hRf j r (16 * j + r) rfl (by omega)
    have w0 := wf_0 (sg := sg) (n := n) (m := x.2.2.2.2.2.2 j r) (i := 0)
    refine ⟨by show (wf sg n (x.2.2.2.2.2.2 j r) 0).toNat + (nW sg n (x.2.2.2.2.1 j) - 2) ≤ 1600; omega, Or.inl (by show _ = (((wf sg n (x.2.2.2.2.2.2 j r) 0).toNat : Nat) : Int); omega), (CT j hj).2.2.1 r hr, fun i hi => ?_⟩
    have hi : i < nW sg n (x.2.2.2.2.1 j) - 2 := hi
    rcases (p4 r hr).1 with q | q
    · omega
    · exact q.2 i (by omega)
  · obtain ⟨p1, -, -, -⟩ := P.2.2.2.2 j hj
    have hk : k < nW sg n (x.2.2.2.2.1 j) - 2 := hk
    have g1 := G1 j hj k (by omega) (by omega)
    have g2 := G2 j hj k (by omega) (by omega)
    refine ⟨Int32.toInt_inj.mp (GvR_u P (by omega) g1 g2), ?_⟩
    rcases g1 with ⟨-, g⟩ | ⟨i, g, gi, -⟩ | ⟨i, g, gi, -⟩
    · exact absurd ⟨k, by omega, by omega, g⟩ (NT j hj)
    · exact Or.inl ⟨by omega, by rw [g]; omega⟩
    · exact Or.inr ⟨by omega, by omega⟩
  · exact ⟨(KT j hj).2.2.2, (CT j hj).2.2.2⟩
