theorem pk_d {sg : Nat → Int32} {f : Nat} : ∀ (m j : Nat), (∀ k : Nat, k < m → nCh (sg (f + k)).toInt) → pk sg f m / 256 ^ j % 256 = if j < m then (sg (f + (m - 1 - j))).toInt.toNat else 0
  | 0, j, h => by
    show 0 / 256 ^ j % 256 = _
    rw [Nat.zero_div, if_neg (by omega)]
  | m + 1, 0, h => by
    have z := nCh_b (h m (by omega))
    rw [Nat.pow_zero, Nat.div_one, if_pos (by omega), show m + 1 - 1 - 0 = m by omega]
    show (pk sg f m * 256 + (sg (f + m)).toInt.toNat) % 256 = _
    omega
  | m + 1, j + 1, h => by
    have z := nCh_b (h m (by omega))
    have i := pk_d (sg := sg) (f := f) m j (fun k hk => h k (by omega))
    rw [Nat.pow_succ, Nat.mul_comm, ← Nat.div_div_eq_div_mul]
    show (pk sg f m * 256 + (sg (f + m)).toInt.toNat) / 256 / 256 ^ j % 256 = _
    rw [show (pk sg f m * 256 + (sg (f + m)).toInt.toNat) / 256 = pk sg f m by omega, i]
    by_cases c : j < m
    · rw [if_pos c, if_pos (by omega), show m + 1 - 1 - (j + 1) = m - 1 - j by omega]
    · rw [if_neg c, if_neg (by omega)]
def chL (sg : Nat → Int32) (p m : Nat) : List Int32 := (List.range m).map (fun k => sg (p + k))
theorem chL_s (sg : Nat → Int32) (p m : Nat) : chL sg p (m + 1) = chL sg p m ++ [sg (p + m)] := by
  unfold chL
  rw [List.range_succ, List.map_append]; rfl
theorem nmF_c {sg : Nat → Int32} {p t : Int} {n : Nat} (p0 : 0 ≤ p) (e : t - p = (n : Int)) (N : Nm sg p t) : ∀ m : Nat, nmFq (nmS sg p t) m = chL sg p.toNat (min m n)
  | 0 => by rw [Nat.zero_min]; rfl
  | m + 1 => by
    rw [nmFq_s, nmF_c p0 e N m]
    by_cases c : m < n
    · have ev : nmS sg p t m = sg (p.toNat + m) := by unfold nmS; exact if_pos (by omega)
      have z := nCh_b (N.2 m (by omega))
      rw [ev, if_pos (by omega), show min m n = m by omega, show min (m + 1) n = m + 1 by omega, chL_s]
    · have ev : nmS sg p t m = 0 := by unfold nmS; exact if_neg (by omega)
      rw [ev, if_neg (by decide), List.append_nil, show min m n = n by omega, show min (m + 1) n = n by omega]
theorem cu_t : ∀ k : Nat, k < 128 → ((Int32.ofNat k).toUInt32 % 65536).toInt32 = Int32.ofNat k := by decide +kernel
theorem wnm_go {sg : Nat → Int32} {p n : Nat} {v1 : Int64} {sc : cf_O} {L : List Int32} (n8 : n ≤ 8) (hv : nv v1 = pk sg p n) (N : ∀ k : Nat, k < n → nCh (sg (p + k)).toInt) : ∀ (f d : Nat) (v3 : Int32) (sb r : cf_O), v3.toInt = 56 - 8 * (d : Int) → d ≤ 8 → SbQ sb (L ++ chL sg p (n - (8 - d))) → gSc_writeName f 0 v1 v3 sc sb = some r → SbQ r (L ++ chL sg p n)
  | 0, d, v3, sb, r, e3, d8, S, h => by cases h
  | f + 1, d, v3, sb, r, e3, d8, S, h => by
    have h : fSc_writeName_13 (gSc_writeName f) v1 v3 sc sb = some r := h
    unfold fSc_writeName_13 at h
    rcases ifc h with ⟨a, h⟩ | ⟨a, h⟩
    · have a := Int32.lt_iff_toInt_lt.mp a
      rw [show (0 : Int32).toInt = 0 from rfl] at a
      have ed : d = 8 := by omega
      rw [← Option.some.inj h]
      rw [ed, show n - (8 - 8) = n by omega] at S
      exact S
    · have a : ¬ v3.toInt < (0 : Int32).toInt := fun z => a (Int32.lt_iff_toInt_lt.mpr z)
      rw [show (0 : Int32).toInt = 0 from rfl] at a
      have d7 : d ≤ 7 := by omega
      have p3 : (v3 + (-8)).toInt = 56 - 8 * ((d + 1 : Nat) : Int) := by
        rw [Int32.toInt_add, show (-8 : Int32).toInt = -8 from by decide, i_bm (by omega) (by omega)]; omega
      rw [opk, opk, opk] at h
      have e1 := ush_n (x := v1) (s := v3) (k := 7 - d) (by omega) (by omega)
      generalize (v1.toUInt64 >>> (v3.toInt64.toUInt64 &&& Int64.toUInt64 63)).toInt64 = x at h e1
      have e2 : nv (x &&& 255) = if 7 - d < n then (sg (p + (n - 1 - (7 - d)))).toInt.toNat else 0 := by rw [nv_and, e1, hv, pk_d n (7 - d) N]
      have e4 : (x &&& 255).toInt32.toInt = (nv (x &&& 255) : Int) := nv_lo (by rw [nv_and]; omega)
      generalize (x &&& 255).toInt32 = y at h e4
      rw [e2] at e4
      by_cases c : 7 - d < n
      · rw [if_pos c] at e4
        have z := nCh_b (N (n - 1 - (7 - d)) (by omega))
        have ey : y = sg (p + (n - 1 - (7 - d))) := Int32.toInt_inj.mp (by omega)
        rcases ifc h with ⟨q, _⟩ | ⟨_, h⟩
        · rw [q, show (0 : Int32).toInt = 0 from rfl] at e4; omega
        · have tc := cu_t y.toInt.toNat (by omega)
          rw [of_n (by omega)] at tc
          rw [opk, tc] at h
          obtain ⟨w, hw, h⟩ := bd h
          have S2 := apC_sp S (by omega) (by omega) hw
          refine wnm_go n8 hv N f (d + 1) (v3 + (-8)) w r p3 (by omega) ?_ h
          rw [show n - (8 - (d + 1)) = (n - (8 - d)) + 1 by omega, chL_s, ← List.append_assoc, show n - (8 - d) = n - 1 - (7 - d) by omega, ← ey]
          rw [show n - (8 - d) = n - 1 - (7 - d) by omega] at S2
          exact S2
      · rw [if_neg c] at e4
        have ey : y = 0 := Int32.toInt_inj.mp (by rw [e4]; rfl)
        rw [if_pos ey] at h
        refine wnm_go n8 hv N f (d + 1) (v3 + (-8)) sb r p3 (by omega) ?_ h
        rw [show n - (8 - (d + 1)) = n - (8 - d) by omega]; exact S
theorem wnm_sp {v1 : Int64} {g : Nat → Int32} {sc sb r : cf_O} {L : List Int32} (S : SbQ sb L) (H : NmR v1 g) (h : fSc_writeName v1 sc sb = some r) : SbQ r (L ++ (32 :: nmFq g 8)) := by
  obtain ⟨sg, p, t, p0, pt, N, hv, hf⟩ := H
  unfold fSc_writeName fSc_writeName_0 at h
  obtain ⟨q, hq, h⟩ := bd h
  have S2 := apC_sp S (by decide) (by decide) hq
  have eg : nmFq g 8 = nmFq (nmS sg p t) 8 := by
    unfold nmFq
    rw [List.map_congr_left (fun k hk => hf k (List.mem_range.mp hk))]
  have n8 := N.1
  rw [eg, nmF_c (n := (t - p).toNat) p0 (by omega) N 8, show min 8 (t - p).toNat = (t - p).toNat by omega]
  have h : gSc_writeName cfFU 0 v1 56 sc q = some r := h
  have z := wnm_go (L := L ++ [32]) (by omega) hv (fun k hk => N.2 k (by omega)) cfFU 0 56 q r rfl (by omega) (by
    rw [show (t - p).toNat - (8 - 0) = 0 by omega]
    show SbQ q ((L ++ [32]) ++ [])
    rw [List.append_nil]; exact S2) h
  rw [List.append_assoc] at z
  exact z
theorem dg_i {v1 v2 : Int32} {v w : Nat} (e1 : v1.toInt = (v : Int)) (e2 : v2.toInt = (w : Int)) (hv : v < 1000) (hw : 1 ≤ w) : (48 + (v1 / v2 - v1 / v2 / 10 * 10)) = Int32.ofNat (48 + v / w % 10) := by
  have d1 : (v1 / v2).toInt = ((v / w : Nat) : Int) := by rw [i_dv (by omega) (by omega), e1, e2]; rfl
  have b1 : v / w < 1000 := Nat.lt_of_le_of_lt (Nat.div_le_self _ _) hv
  generalize v / w = q at d1 b1
  generalize v1 / v2 = x at d1
  have d2 : (x / 10).toInt = ((q / 10 : Nat) : Int) := by rw [i_dv (y := 10) (by omega) (by decide), d1]; rfl
  have d3 : (x / 10 * 10).toInt = 10 * ((q / 10 : Nat) : Int) := by rw [Int32.toInt_mul, d2, show (10 : Int32).toInt = 10 from rfl, i_bm (by omega) (by omega)]; omega
  have d4 : (x - x / 10 * 10).toInt = ((q % 10 : Nat) : Int) := by rw [Int32.toInt_sub, d1, d3, i_bm (by omega) (by omega)]; omega
  exact Int32.toInt_inj.mp (by rw [Int32.toInt_add, d4, show (48 : Int32).toInt = 48 from rfl, i_bm (by omega) (by omega), ofiN (by omega)]; omega)
theorem nn_st {v1 v2 : Int32} {v w : Nat} {om r : cf_O} {L : List Int32} (e1 : v1.toInt = (v : Int)) (e2 : v2.toInt = (w : Int)) (hv : v < 1000) (hw : w ≤ 100) (R : RtQ om L) : ∀ f : Nat, gM_nodeName f 0 v1 v2 om = some r → (w = 0 ∧ r = om) ∨ (1 ≤ w ∧ ∃ (f' : Nat) (v3 : Int32) (q : cf_O), v3.toInt = ((w / 10 : Nat) : Int) ∧ gM_nodeName f' 0 v1 v3 q = some r ∧ Fr (fr_M [76] [77] []) om q ∧ RtQ q (L ++ (if v < w then [] else [Int32.ofNat (48 + v / w % 10)])))
  | 0, h => by cases h
  | f + 1, h => by
    have h : fM_nodeName_44 (gM_nodeName f) v1 v2 om = some r := h
    unfold fM_nodeName_44 at h
    rcases ifc h with ⟨a, h⟩ | ⟨a, h⟩
    · have a := c_le a
      rw [show (0 : Int32).toInt = 0 from rfl] at a
      exact Or.inl ⟨by omega, (Option.some.inj h).symm⟩
    · have a := c_nle a
      rw [show (0 : Int32).toInt = 0 from rfl] at a
      refine Or.inr ⟨by omega, ?_⟩
      have d : (v2 / 10).toInt = ((w / 10 : Nat) : Int) := by rw [i_dv (y := 10) (by omega) (by decide), e2]; rfl
      rcases ifc h with ⟨c, h⟩ | ⟨c, h⟩
      · have c := Int32.lt_iff_toInt_lt.mp c
        unfold fM_nodeName_67 at h
        rw [opk] at h
        refine ⟨f, v2 / 10, om, d, h, fr_rfl, ?_⟩
        rw [if_pos (by omega), List.append_nil]; exact R
      · have c : ¬ v1.toInt < v2.toInt := fun z => c (Int32.lt_iff_toInt_lt.mpr z)
        have h := (ifn h).2
        rw [opk, opk, opk, opk, dg_i e1 e2 hv (by omega)] at h
        obtain ⟨q, hq, h⟩ := bd h
        obtain ⟨R2, f2⟩ := em_sp R hq
        unfold fM_nodeName_67 at h
        rw [opk] at h
        refine ⟨f, v2 / 10, q, d, h, f2, ?_⟩
        rw [if_neg (by omega)]
        rw [Int32.toInt32_toInt64] at R2
        exact R2
def ndL (b : Nat) (g : Nat → Int32) (v : Nat) : List Int32 := if b ≤ v then [32, 110, 95] ++ dgL v else 32 :: nmFq (fun j => g (8 * (v - 1) + j)) 8
theorem ndm_sp {b n v : Nat} {v1 : Int32} {gr om r : cf_O} {L : List Int32} (RG : RGq b n gr om) (R : RtQ om L) (e1 : v1.toInt = (v : Int)) (h1 : 1 ≤ v) (hv : v < 1000) (h : fM_nodeName v1 om = some r) : RtQ r (L ++ ndL b (om.2.1 41) v) ∧ Fr (fr_M [76] [77] []) om r := by
  have R0 := RG.1
  unfold fM_nodeName fM_nodeName_0 at h
  obtain ⟨q, hq, h⟩ := bd h
  have eb := base_sp RG hq
  unfold ndL
  rcases ifc h with ⟨a, h⟩ | ⟨a, h⟩
  · have a := c_le a
    rw [if_pos (by omega)]
    obtain ⟨q1, k1, h⟩ := bd h
    obtain ⟨q2, k2, h⟩ := bd h
    obtain ⟨q3, k3, h⟩ := bd h
    obtain ⟨R1, f1⟩ := em_sp R k1
    obtain ⟨R2, f2⟩ := em_sp R1 k2
    obtain ⟨R3, f3⟩ := em_sp R2 k3
    have R3 : RtQ q3 (L ++ [32, 110, 95]) := by
      rw [List.append_assoc, List.append_assoc] at R3
      exact R3
    have f3 : Fr (fr_M [76] [77] []) om q3 := fr_tr (fr_tr f1 f2 rfl rfl rfl) f3 rfl rfl rfl
    have h : gM_nodeName cfFU 0 v1 100 q3 = some r := h
    rcases nn_st (w := 100) e1 rfl hv (by omega) R3 cfFU h with ⟨z, _⟩ | ⟨_, g1, w1, u1, z1, h, y1, T1⟩
    · omega
    rcases nn_st (w := 10) e1 z1 hv (by omega) T1 g1 h with ⟨z, _⟩ | ⟨_, g2, w2, u2, z2, h, y2, T2⟩
    · omega
    rcases nn_st (w := 1) e1 z2 hv (by omega) T2 g2 h with ⟨z, _⟩ | ⟨_, g3, w3, u3, z3, h, y3, T3⟩
    · omega
    rcases nn_st (w := 0) e1 z3 hv (by omega) T3 g3 h with ⟨_, er⟩ | ⟨z, _⟩
    · rw [er]
      refine ⟨?_, fr_tr (fr_tr (fr_tr f3 y1 rfl rfl rfl) y2 rfl rfl rfl) y3 rfl rfl rfl⟩
      have ed : (if v < 100 then ([] : List Int32) else [Int32.ofNat (48 + v / 100 % 10)]) ++ ((if v < 10 then [] else [Int32.ofNat (48 + v / 10 % 10)]) ++ (if v < 1 then [] else [Int32.ofNat (48 + v / 1 % 10)])) = dgL v := by
        unfold dgL
        rw [Nat.div_one, if_neg (show ¬ v < 1 by omega)]
        by_cases c1 : v < 10
        · rw [if_pos c1, if_pos (by omega), if_pos c1, show v % 10 = v by omega]; rfl
        · rw [if_neg c1, if_neg c1]
          by_cases c2 : v < 100
          · rw [if_pos c2, if_pos c2, show v / 10 % 10 = v / 10 by omega]; rfl
          · rw [if_neg c2, if_neg c2, show v / 100 % 10 = v / 100 by omega]; rfl
      rw [List.append_assoc, List.append_assoc, ed, List.append_assoc] at T3
      exact T3
    · omega
  · have a := c_nle a
    rw [if_neg (by omega), opk] at *
    obtain ⟨w, hw, h⟩ := bd h
    have er : r = w := (Option.some.inj h).symm
    subst er
    exact na1_sp R (by rw [i_sub' (by omega) (by omega) (by decide) (by decide), e1, show (1 : Int32).toInt = 1 from rfl]; omega) (by omega) hw
