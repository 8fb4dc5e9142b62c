theorem FmX_i {b n c : Nat} {gr cu li : cf_O} {R : Nat → List (List Nat)} {rows : List (List (List Int))} (G : GW b n gr) (hF : FcQ c (faL li)) (ec : (li.1 0).toInt = (c : Int)) (LW : LwI li) (F : CFa b 3 gr (b + n) R rows cu) : FmX b n c gr cu li R := by
  obtain ⟨c', m, l1, l2, l3⟩ := LW
  have e : c' = c := by omega
  subst e
  have G0 := G.1
  obtain ⟨f1, f2, f3, f4, f5, f6, f7, f8, f9, f10⟩ := F
  rw [show b + n - b = n by omega] at f6 f7
  refine ⟨G, hF, ⟨m, l2⟩, l3, fun g g1 g2 => ?_⟩
  obtain ⟨r1, r2, r3, r4, r5, _, r7⟩ := f1 g (by omega) g2
  have cl := (cuts_len n rows f6).2 g
  have cc := (cuts_cov (by omega) n rows (fun j hj => G.2.1 j hj) f6).2 g g2
  have up : ∀ l ∈ R g, upL l ∈ rows.getD g [] := fun l hl => (f8 g (by omega) g2 (upL l)).mp (List.mem_map.mpr ⟨l, hl, rfl⟩)
  have ul : ∀ l : List Nat, (upL l).length = l.length := fun l => by unfold upL; rw [List.length_reverse, List.length_map]
  refine ⟨(cu.2.1 2 g).toInt.toNat + 1, by omega, r7, by omega, fun k l hk => ?_, fun l hl => ⟨(r5 l hl).1, (r5 l hl).2.1, ?_⟩, fun l hl => cc _ (up l hl), by omega⟩
  · have := r1 (k + 1) l hk
    rw [show (cu.2.1 2 g).toInt.toNat + 1 + k = (cu.2.1 2 g).toInt.toNat + (k + 1) by omega]
    exact this
  · have := cl _ (up l hl)
    rw [ul] at this; exact this
theorem MaX_i {b n c : Nat} {gr cu om : cf_O} {R : Nat → List (List Nat)} {rows : List (List (List Int))} (G : GW b n gr) (RG : RGq b n gr om) (ok : okO I_M om) (hF : FcQ c (om.2.1 84)) (e82 : (om.1 82).toInt = (c : Int)) (F : CFa b 3 gr (b + n) R rows cu) (er : rows = rowsL (om.2.1 57) (om.2.1 59) (om.2.1 58) (b + n)) : MaX b n c gr om ∧ ∀ (g : Nat) (C : List Int), b ≤ g → g < b + n → (CsR om g C ↔ CsC R g C) := by
  have G0 := G.1
  obtain ⟨f1, f2, f3, f4, f5, f6, f7, f8, f9, f10⟩ := F
  rw [show b + n - b = n by omega] at f6 f7
  have B := CbM_i ok
  have eq : ∀ (g : Nat) (C : List Int), b ≤ g → g < b + n → (CsR om g C ↔ CsC R g C) := fun g C g1 g2 => by
    unfold CsR CsC
    have e : rows.getD g [] = rowL (om.2.1 57) (om.2.1 59) (om.2.1 58) g := by rw [er]; exact rows_d g2
    rw [← e, ← f8 g (by omega) g2 C, List.mem_map]
    exact ⟨fun ⟨a, ha, z⟩ => ⟨a, ha, z.symm⟩, fun ⟨a, ha, z⟩ => ⟨a, ha, z.symm⟩⟩
  refine ⟨⟨G, RG, fun g g1 g2 => ⟨B.2.2.2 g, fun j hj => ?_⟩, hF, e82⟩, eq⟩
  have mem : CsR om g (cutL (om.2.1 59) (om.2.1 58) (301 * g + j)) := row_m.mpr ⟨j, hj, rfl⟩
  obtain ⟨a, ha, e⟩ := (eq g _ g1 g2).mp mem
  obtain ⟨r1, r2, r3, r4, r5, _, r7⟩ := f1 g (by omega) g2
  have fa := r5 a ha
  have ul : (upL a).length = a.length := by unfold upL; rw [List.length_reverse, List.length_map]
  have cl := (cuts_len n rows f6).2 g _ ((f8 g (by omega) g2 (upL a)).mp (List.mem_map.mpr ⟨a, ha, rfl⟩))
  rw [e]
  refine ⟨by omega, up_sd fa.1, fun z hz => ?_⟩
  unfold upL at hz
  obtain ⟨y, hy, ey⟩ := List.mem_map.mp (List.mem_reverse.mp hz)
  have := Fall_lt fa.1 hy
  omega
def LiR (om : cf_O) (L : List Nat) : Prop := (om.1 93).toInt = (L.length : Int) ∧ ∀ i x : Nat, L[i]? = some x → (om.2.1 94 i).toInt = (x : Int)
def MpW (b n c : Nat) (gr mp om : cf_O) (L : List Nat) : Prop := ∃ oc oc' : cf_O, fM_writeMap oc = some oc' ∧ oc.1 95 = 1 ∧ RGq b n gr oc ∧ RwQ b c (b + n) oc (wvM mp) ∧ LiR oc L ∧ oc.2.1 83 = om.2.1 83 ∧ oc.2.1 84 = om.2.1 84 ∧ oc.2.1 41 = om.2.1 41 ∧ oc.2.1 42 = om.2.1 42 ∧ oc.2.2 4 = om.2.2 4 ∧ oc'.1 96 = om.1 96 ∧ oc'.2.1 97 = om.2.1 97
def NmL (c : Nat) (li : cf_O) (nm : Nat → Int32) : Prop := ∀ i : Nat, i < c → NmR (li.2.2 2 i) (fun k => nm (8 * i + k))
def MpS (gr mp li om : cf_O) : Prop := ∃ (b n c M : Nat) (L : List Nat), ((gr.1 0).toInt + 1 = (b : Int) ∧ (gr.1 2).toInt = (n : Int) ∧ (gr.1 1).toInt = (M : Int) ∧ b + n ≤ 209) ∧ ((om.1 82).toInt = (c : Int) ∧ LRq c li (om.2.1 84) ∧ NmL c li (om.2.1 83)) ∧ RwQ b c (b + n) om (wvM mp) ∧ (wvM mp 0 = 0 ∧ wvM mp 1 = 0) ∧ (∀ x ∈ L, 2 ≤ x ∧ x < 2 * (b + n) ∧ gvB b x = false ∧ ¬ wvM mp x = NOM) ∧ LiC li mp mp L ∧ LiR om L ∧ (mp.1 2).toInt = (tmO (wvM mp) gr M : Int) ∧ (∀ k : Nat, k < M → otN gr k < 2 * (b + n) ∧ ¬ wvM mp (otN gr k) = NOM) ∧ (∀ x ∈ L, ∀ y : Nat, PiQ (faL li) (wvM mp) x y → 2 ≤ y) ∧ MpW b n c gr mp om L
def MpI (F gr mp li om : cf_O) : Prop := F.1 18 = om.1 85 ∧ (F.1 18 = 0 ∨ (F.1 18 = 1 ∧ MpS gr mp li om))
theorem MpS_f {gr mp li om om2 : cf_O} (h : MpS gr mp li om) (u82 : om2.1 82 = om.1 82) (u93 : om2.1 93 = om.1 93) (u96 : om2.1 96 = om.1 96) (u41 : om2.2.1 41 = om.2.1 41) (u42 : om2.2.1 42 = om.2.1 42) (u83 : om2.2.1 83 = om.2.1 83) (u84 : om2.2.1 84 = om.2.1 84) (u86 : om2.2.1 86 = om.2.1 86) (u87 : om2.2.1 87 = om.2.1 87) (u94 : om2.2.1 94 = om.2.1 94) (u97 : om2.2.1 97 = om.2.1 97) (u4 : om2.2.2 4 = om.2.2 4) : MpS gr mp li om2 := by
  obtain ⟨b, n, c, M, L, h1, h2, h3, h4, h5, h6, h7, h8, h9, h10, oc, oc', w⟩ := h
  refine ⟨b, n, c, M, L, h1, by rw [u82, u83, u84]; exact h2, RwQ_f h3 (fun x _ => ⟨by rw [u86], fun k _ => by rw [u87]⟩) u84, h4, h5, h6, ?_, h8, h9, h10, oc, oc', ?_⟩
  · unfold LiR
    rw [u93, u94]; exact h7
  · rw [u83, u84, u41, u42, u4, u96, u97]; exact w
theorem ml_go {OM : cf_O} (B : B01 OM) (e95 : OM.1 95 = 0) : ∀ (f x : Nat) (v : Int32) (o : cf_O) (r : Int32 × cf_O), v.toInt = (x : Int) → x ≤ 420 → Fr (fr_M [93] [94] []) OM o → LiR o (flN (fun y => decide (OM.2.1 92 y = 1)) x) → gM_map f 0 v o = some r → ∃ oc oc' : cf_O, Fr (fr_M [93, 95] [94] []) OM oc ∧ oc.1 95 = 1 ∧ LiR oc (flN (fun y => decide (OM.2.1 92 y = 1)) 420) ∧ fM_writeMap oc = some oc' ∧ r = (oc'.1 93, fp oc' 95 0)
  | 0, x, v, o, r, ev, hx, fo, L, h => by cases h
  | f + 1, x, v, o, r, ev, hx, fo, L, h => by
    have h : fM_map_86 (gM_map f) v o = some r := h
    unfold fM_map_86 at h
    rcases ifc h with ⟨a, h⟩ | ⟨a, h⟩
    · have a : 420 ≤ v.toInt := c_le a
      have ex : x = 420 := by omega
      subst ex
      rw [opk] at h
      obtain ⟨q, hq, h⟩ := bd h
      rw [opk] at h
      exact ⟨fp o 95 1, q, fr_fp (fr_tr fr_rfl fo rfl rfl rfl) rfl, rfl, L, hq, (Option.some.inj h).symm⟩
    · have a : v.toInt < 420 := c_nle a
      have h := (ifn h).2
      rw [opk, tW ev, fo.2.1 92 rfl] at h
      have p := pW (v := v) (by omega) (by omega)
      rcases ifc h with ⟨d, h⟩ | ⟨d, h⟩
      · unfold fM_map_122 at h
        rw [opk] at h
        have es : flN (fun y => decide (OM.2.1 92 y = 1)) (x + 1) = flN (fun y => decide (OM.2.1 92 y = 1)) x := by
          rw [flN_s, if_neg (by rw [d]; decide), List.append_nil]
        exact ml_go B e95 f (x + 1) (v + 1) o r (by omega) (by omega) fo (by rw [es]; exact L) h
      · have m1 : OM.2.1 92 x = 1 := (B x (by omega)).resolve_left d
        have es : flN (fun y => decide (OM.2.1 92 y = 1)) (x + 1) = flN (fun y => decide (OM.2.1 92 y = 1)) x ++ [x] := by
          rw [flN_s, if_pos (by rw [m1]; decide)]
        have ll := flN_l (p := fun y => decide (OM.2.1 92 y = 1)) x
        have h := (ifn h).2
        obtain ⟨L1, L2⟩ := L
        rw [opk, tW L1] at h
        generalize flN (fun y => decide (OM.2.1 92 y = 1)) x = K at es ll L1 L2 h
        have k9 : (xp o 94 K.length v).1 93 = o.1 93 := rfl
        rw [opk, opk, k9] at h
        unfold fM_map_122 at h
        rw [opk] at h
        refine ml_go B e95 f (x + 1) (v + 1) (fp (xp o 94 K.length v) 93 (o.1 93 + 1)) r (by omega) (by omega) (fr_fp (fr_xp fo rfl) rfl) ?_ h
        rw [es]
        refine ⟨?_, fun i y hy => ?_⟩
        · show (o.1 93 + 1).toInt = _
          rw [pW (by omega) (by omega), List.length_append]
          show _ = ((K.length + 1 : Nat) : Int)
          omega
        · show (upd (o.2.1 94) K.length v i).toInt = _
          by_cases ei : i = K.length
          · rw [ei, List.getElem?_append_right (Nat.le_refl _), Nat.sub_self] at hy
            have hy := Option.some.inj (show some x = some y from hy)
            rw [ei, up_s, ev, hy]
          · rw [up_o ei]
            refine L2 i y ?_
            by_cases lt : i < K.length
            · rw [List.getElem?_append_left lt] at hy; exact hy
            · rw [List.getElem?_eq_none (by rw [List.length_append]; show K.length + 1 ≤ i; omega)] at hy; cases hy
