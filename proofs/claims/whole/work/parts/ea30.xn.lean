theorem bt_us {t : Int32} {s : UInt32} {i j : Nat} (hs : s.toNat % 32 = i) : bt ((t.toUInt32 >>> s).toInt32) j = bt t (i + j) := by
  unfold bt
  have e : ((t.toUInt32 >>> s).toInt32).toBitVec.toNat = t.toBitVec.toNat / 2 ^ i := by
    show (t.toUInt32 >>> s).toNat = _
    rw [UInt32.toNat_shiftRight, hs, Nat.shiftRight_eq_div_pow]; rfl
  rw [e, Nat.testBit_div_two_pow, Nat.add_comm]
theorem an1_b {x : Int32} : x &&& 1 = 0 ↔ bt x 0 = false := by
  have e : (x &&& 1).toBitVec.toNat = x.toBitVec.toNat % 2 := by
    show (x.toBitVec &&& 1#32).toNat = _
    rw [BitVec.toNat_and]; exact Nat.and_one_is_mod _
  unfold bt
  rw [Nat.testBit_zero]
  constructor
  · intro h
    rw [h, show (0 : Int32).toBitVec.toNat = 0 from rfl] at e
    exact decide_eq_false (by omega)
  · intro h
    have h := of_decide_eq_false h
    exact Int32.toBitVec_inj.mp (BitVec.eq_of_toNat_eq (by rw [e]; show _ = 0; omega))
theorem us_t : ∀ k : Nat, k < 32 → ((Int32.ofNat k).toUInt32 &&& Int32.toUInt32 31).toNat % 32 = k := by decide +kernel
theorem ub_0 {t v : Int32} {i : Nat} (hi : i < 32) (ev : v.toInt = (i : Int)) : (t.toUInt32 >>> (v.toUInt32 &&& Int32.toUInt32 31)).toInt32 &&& 1 = 0 ↔ bt t i = false := by
  rw [on_i ev, an1_b, bt_us (us_t i hi), Nat.add_zero]
theorem AsQ_a {L A : List Int32} (h1 : AsQ L) (h2 : AsQ A) : AsQ (L ++ A) := fun x hx => by
  rcases List.mem_append.mp hx with z | z
  · exact h1 x z
  · exact h2 x z
def TwS (sb om : cf_O) : Prop := ∃ L : List Int32, SbQ sb L ∧ RtQ om L ∧ AsQ L ∧ 5 ≤ L.length
theorem TwS_f {sb om om2 : cf_O} (T : TwS sb om) (u95 : om2.1 95 = om.1 95) (u76 : om2.1 76 = om.1 76) (u77 : om2.2.1 77 = om.2.1 77) : TwS sb om2 := by
  obtain ⟨L, h1, h2, h3⟩ := T
  refine ⟨L, h1, ?_, h3⟩
  unfold RtQ at h2 ⊢
  rw [u95, u76, u77]; exact h2
theorem tw_C {v : Int32} {w : Int64} {sb sb2 om om2 : cf_O} (T : TwS sb om) (e : w.toInt32 = v) (h0 : 0 ≤ v.toInt) (h1 : v.toInt ≤ 127) (k1 : fSB_appendC v sb = some sb2) (k2 : fM_emit w om = some om2) : TwS sb2 om2 ∧ Fr (fr_M [76] [77] []) om om2 := by
  obtain ⟨L, S, R, A, l5⟩ := T
  obtain ⟨R2, f2⟩ := em_sp R k2
  rw [e] at R2
  refine ⟨⟨L ++ [v], apC_sp S h0 h1 k1, R2, AsQ_a A (fun x hx => by rw [List.mem_singleton.mp hx]; exact ⟨h0, h1⟩), ?_⟩, f2⟩
  rw [List.length_append]; omega
theorem nmF_a {l : Int64} {g : Nat → Int32} (H : NmR l g) : AsQ (32 :: nmFq g 8) := by
  obtain ⟨sg, p, t, p0, pt, N, hv, hf⟩ := H
  have n8 := N.1
  intro x hx
  rcases List.mem_cons.mp hx with z | z
  · rw [z]; decide
  · have eg : nmFq g 8 = nmFq (nmS sg p t) 8 := by
      unfold nmFq
      rw [List.map_congr_left (fun k hk => hf k (List.mem_range.mp hk))]
    rw [eg, nmF_c (n := (t - p).toNat) p0 (by omega) N 8] at z
    unfold chL at z
    obtain ⟨k, k1, k2⟩ := List.mem_map.mp z
    have k1 := List.mem_range.mp k1
    have y := nCh_b (N.2 k (by omega))
    rw [← k2]; omega
theorem dgL_a {v : Nat} (hv : v < 1000) : AsQ (dgL v) := by
  have k : ∀ j : Nat, j < 80 → 0 ≤ (Int32.ofNat (48 + j)).toInt ∧ (Int32.ofNat (48 + j)).toInt ≤ 127 := fun j hj => by rw [ofiN (by omega)]; omega
  intro x hx
  unfold dgL at hx
  by_cases c1 : v < 10
  · rw [if_pos c1] at hx
    rw [List.mem_singleton.mp hx]; exact k _ (by omega)
  · rw [if_neg c1] at hx
    by_cases c2 : v < 100
    · rw [if_pos c2] at hx
      rcases List.mem_cons.mp hx with z | z
      · rw [z]; exact k _ (by omega)
      · rw [List.mem_singleton.mp z]; exact k _ (by omega)
    · rw [if_neg c2] at hx
      rcases List.mem_cons.mp hx with z | z
      · rw [z]; exact k _ (by omega)
      · rcases List.mem_cons.mp z with z | z
        · rw [z]; exact k _ (by omega)
        · rw [List.mem_singleton.mp z]; exact k _ (by omega)
theorem NaI_f {nl gr om om2 : cf_O} (h : NaI nl gr om) (u39 : om2.1 39 = om.1 39) (u40 : om2.1 40 = om.1 40) (u41 : om2.2.1 41 = om.2.1 41) (u42 : om2.2.1 42 = om.2.1 42) : NaI nl gr om2 := by
  unfold NaI RNm at h ⊢
  rw [u39, u40, u41, u42]; exact h
theorem liw_sp {b n v : Nat} {x2 v1 : Int32} {gr nl sc sb sb2 om om2 : cf_O} (RG : RGq b n gr om) (N : NaI nl gr om) (T : TwS sb om) (e1 : v1.toInt = (v : Int)) (e2 : x2.toInt = 2 * (v : Int)) (h1 : 1 ≤ v) (hv : v < 1000) (k1 : fSc_writeLiteral x2 sc nl sb = some sb2) (k2 : fM_nodeName v1 om = some om2) : TwS sb2 om2 ∧ Fr (fr_M [76] [77] []) om om2 := by
  have R0 := RG.1
  obtain ⟨L, S, R, A, l5⟩ := T
  have L9 := R.2.1.2
  obtain ⟨R2, f2⟩ := ndm_sp RG R e1 h1 hv k2
  have es : (x2 >>> ((1 : Int32) &&& 31)).toInt = (v : Int) := by rw [i_s1 (by omega), e2]; omega
  have ea : x2 &&& 1 = 0 := Int32.toInt_inj.mp (by rw [i_a1 (by omega), e2]; show _ = (0 : Int); omega)
  unfold fSc_writeLiteral fSc_writeLiteral_0 at k1
  rw [opk, opk, if_pos ea] at k1
  rw [if_neg (fun z => by have := Int32.lt_iff_toInt_lt.mp z; rw [show (1 : Int32).toInt = 1 from rfl] at this; omega)] at k1
  unfold ndL at R2
  rcases ifc k1 with ⟨c, k1⟩ | ⟨c, k1⟩
  · have c := Int32.lt_iff_toInt_lt.mp c
    rw [N.1] at c
    rw [if_pos (by omega), ← List.append_assoc] at R2
    unfold fSc_writeLiteral_36 at k1
    rw [opk, if_pos ea] at k1
    obtain ⟨q, hq, k1⟩ := bd k1
    have S1 := apS_9 S hq
    rw [show wdL 9 3 = [32, 110, 95] from by decide +kernel] at S1
    unfold fSc_writeLiteral_56 fSc_writeLiteral_65 at k1
    obtain ⟨w, hw, k1⟩ := bd k1
    have er : sb2 = w := (Option.some.inj k1).symm
    subst er
    have S2 := apI_sp S1 (by omega) (by omega) (by rw [List.length_append]; omega) (by rw [List.length_append]; show L.length + 3 ≤ _; omega) hw
    rw [es] at S2
    refine ⟨⟨_, S2, R2, AsQ_a (AsQ_a A (by unfold AsQ; decide)) (dgL_a hv), ?_⟩, f2⟩
    rw [List.length_append, List.length_append]; omega
  · have c : ¬ (nl.1 0).toInt < (x2 >>> ((1 : Int32) &&& 31)).toInt := fun z => c (Int32.lt_iff_toInt_lt.mpr z)
    rw [N.1] at c
    rw [if_neg (by omega)] at R2
    rw [opk] at k1
    have k1 := (ifn k1).2
    have ei : (x2 >>> ((1 : Int32) &&& 31) - 1).toNatClampNeg = v - 1 := tW (by rw [i_sub' (by omega) (by omega) (by decide) (by decide), es, show (1 : Int32).toInt = 1 from rfl]; omega)
    rw [opk, ei] at k1
    obtain ⟨w, hw, k1⟩ := bd k1
    have er : sb2 = w := (Option.some.inj k1).symm
    subst er
    have H := N.2.2.1 (v - 1) (by rw [R0.2.2.1]; omega)
    refine ⟨⟨_, wnm_sp S H hw, R2, AsQ_a A (nmF_a H), ?_⟩, f2⟩
    rw [List.length_append]; omega
theorem nod_sp {b n v : Nat} {v1 v2 : Int32} {gr nl sc sb sb2 om om2 : cf_O} (RG : RGq b n gr om) (N : NaI nl gr om) (T : TwS sb om) (e1 : v1.toInt = (v : Int)) (e2 : v2.toInt = (v : Int)) (h1 : 1 ≤ v) (hv : v < 1000) (k1 : fSc_writeNode v2 sc nl sb = some sb2) (k2 : fM_nodeName v1 om = some om2) : TwS sb2 om2 ∧ Fr (fr_M [76] [77] []) om om2 := by
  unfold fSc_writeNode fSc_writeNode_0 at k1
  rw [opk] at k1
  obtain ⟨w, hw, k1⟩ := bd k1
  have er : sb2 = w := (Option.some.inj k1).symm
  subst er
  exact liw_sp RG N T e1 (by rw [Int32.toInt_mul, e2, show (2 : Int32).toInt = 2 from rfl, i_bm (by omega) (by omega)]) h1 hv hw k2
