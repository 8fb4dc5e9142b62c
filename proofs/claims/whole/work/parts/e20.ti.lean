theorem WF_n {sg : Nat → Int32} {p h : Nat} (hp : p ≤ h) : ∀ {i : Nat}, WF sg p h i < h → nch 32 sg (WF sg p h i) = true
  | 0, q => fb_at q hp
  | i + 1, q => by
    have b := (WF_b (sg := sg) hp i).2
    have b2 : fb (chh 32 sg) h (WF sg p h i) ≤ h := fb_le b
    exact fb_at q b2
theorem WT_l {sg : Nat → Int32} {p h i : Nat} (hp : p ≤ h) (q : WF sg p h i < h) : WF sg p h i < WT sg p h i := by
  have z := WF_n hp q
  have c : chh 32 sg (WF sg p h i) = false := by
    unfold nch at z
    unfold chh
    cases hd : decide ((sg (WF sg p h i)).toInt = 32) with
    | true => rw [hd] at z; cases z
    | false => rfl
  unfold WT
  rw [fb_f q c]
  exact fb_ge
theorem LH_g {sg : Nat → Int32} {n p : Nat} : p ≤ LH sg n p := fb_ge
theorem Tw {sg : Nat → Int32} {n k : Int} {m i : Nat} {fr to : Nat → Int32} (h : TK sg n (LPq sg n.toNat m) k fr to) (hi : (i : Int) < k) : (fr i).toInt = wf sg n.toNat m i ∧ (to i).toInt = wt sg n.toNat m i ∧ wf sg n.toNat m i < wt sg n.toNat m i := by
  have z := h.1 i hi
  rw [show ((LPq sg n.toNat m : Nat) : Int).toNat = LPq sg n.toNat m from Int.toNat_natCast _] at z
  refine ⟨z.1, z.2.1, ?_⟩
  have := WT_l LH_g z.2.2
  unfold wf wt
  omega
theorem Tn_w {sg : Nat → Int32} {n k : Int} {m : Nat} {fr to : Nat → Int32} (h : TK sg n (LPq sg n.toNat m) k fr to) (hk : 0 ≤ k) : Wn sg n.toNat m k.toNat := by
  have e : ((LPq sg n.toNat m : Nat) : Int).toNat = LPq sg n.toNat m := Int.toNat_natCast _
  refine ⟨fun i hi => ?_, ?_⟩
  · have z := (h.1 i (by omega)).2.2
    rw [e] at z; exact z
  · have z := h.2
    rw [e] at z; exact z
theorem fail_sp {k v : Int32} {o r : cf_O} (h5 : o.1 5 = 0) (h : fM_fail k v o = some r) : r = fp (fp o 5 k) 6 v := by
  rcases ifc (show (if (o.1 5) = (0 : Int32) then some (fp (fp o 5 k) 6 v) else some o) = some r from h) with ⟨_, h⟩ | ⟨a, _⟩
  · exact (Option.some.inj h).symm
  · exact absurd h5 a
def nsg (o : cf_O) (k : Nat) : Int32 := if (o.2.1 8 1).toInt + (k : Int) < (o.2.1 9 1).toInt then o.2.1 1 ((o.2.1 8 1).toInt.toNat + k) else 0
def Addd (O r : cf_O) (c : Nat) : Prop := Fr (fr_M [79] [80, 81] []) O r ∧ (r.1 79).toInt = (c : Int) + 1 ∧ (∀ j : Nat, j < 8 * c → r.2.1 80 j = O.2.1 80 j) ∧ (∀ k : Nat, k < 8 → r.2.1 80 (8 * c + k) = nsg O k) ∧ (∀ j : Nat, j < 4 * c → r.2.1 81 j = O.2.1 81 j) ∧ Dg (O.2.1 1) (O.2.1 8 2).toInt (O.2.1 9 2).toInt 3 (r.2.1 81 (4 * c)).toInt ∧ Dg (O.2.1 1) (O.2.1 8 3).toInt (O.2.1 9 3).toInt 2 (r.2.1 81 (4 * c + 1)).toInt ∧ Pnq (O.2.1 1) (O.2.1 8 4).toInt (O.2.1 9 4).toInt (r.2.1 81 (4 * c + 2)).toInt ∧ (r.2.1 81 (4 * c + 3)).toInt = (bvl (O.2.1 1) (O.2.1 8 4).toInt.toNat ((O.2.1 9 4).toInt - (O.2.1 8 4).toInt).toNat : Int)
theorem cellLine_go {O : cf_O} {c : Nat} (hO : okO I_M O) (ec : (O.1 79).toInt = (c : Int)) (hc : c < 12) (w2 : (O.2.1 8 2).toInt < (O.2.1 9 2).toInt) (w3 : (O.2.1 8 3).toInt < (O.2.1 9 3).toInt) (w4 : (O.2.1 8 4).toInt < (O.2.1 9 4).toInt) (w48 : (O.2.1 9 4).toInt - (O.2.1 8 4).toInt ≤ 8) (hb : bOk (O.2.1 1) (O.2.1 8 4).toInt.toNat ((O.2.1 9 4).toInt - (O.2.1 8 4).toInt).toNat) : ∀ fuel : Nat,
    (∀ (v2 : Int32) (o r : cf_O), okO I_M o → Fr (fr_M [] [80, 81] []) O o → 0 ≤ v2.toInt → v2.toInt ≤ 8 → (∀ j : Nat, j < 8 * c → o.2.1 80 j = O.2.1 80 j) → (∀ k : Nat, (k : Int) < v2.toInt → o.2.1 80 (8 * c + k) = nsg O k) → o.2.1 81 = O.2.1 81 → gM_cellLine fuel 0 v2 0 o = some r → Addd O r c) ∧
    (∀ (v2 v3 : Int32) (o r : cf_O), okO I_M o → Fr (fr_M [] [80, 81] []) O o → (O.2.1 8 4).toInt ≤ v3.toInt → v3.toInt ≤ (O.2.1 9 4).toInt → (∀ j : Nat, j < 8 * c → o.2.1 80 j = O.2.1 80 j) → (∀ k : Nat, k < 8 → o.2.1 80 (8 * c + k) = nsg O k) → o.2.1 81 = O.2.1 81 → v2.toInt = (bvl (O.2.1 1) (O.2.1 8 4).toInt.toNat (v3.toInt - (O.2.1 8 4).toInt).toNat : Int) → gM_cellLine fuel 1 v2 v3 o = some r → Addd O r c)
  | 0 => ⟨fun _ _ _ _ _ _ _ _ _ _ h => (by cases h), fun _ _ _ _ _ _ _ _ _ _ _ _ h => (by cases h)⟩
  | fuel + 1 => by
    obtain ⟨i0, i1⟩ := cellLine_go hO ec hc w2 w3 w4 w48 hb fuel
    have b81 : (0 : Int) ≤ (O.2.1 8 1).toInt ∧ (O.2.1 8 1).toInt ≤ 1599 := hO.2 8 1
    have b84 : (0 : Int) ≤ (O.2.1 8 4).toInt ∧ (O.2.1 8 4).toInt ≤ 1599 := hO.2 8 4
    have b94 : (0 : Int) ≤ (O.2.1 9 4).toInt ∧ (O.2.1 9 4).toInt ≤ 1600 := hO.2 9 4
    refine ⟨?_, ?_⟩
    · intro v2 o r ho rO h0 h8 hj hk h81 h
      have e1 : o.2.1 1 = O.2.1 1 := rO.2.1 1 rfl
      have e8 : o.2.1 8 = O.2.1 8 := rO.2.1 8 rfl
      have e9 : o.2.1 9 = O.2.1 9 := rO.2.1 9 rfl
      have e79 : o.1 79 = O.1 79 := rO.1 79 rfl
      have h : fM_cellLine_83 (gM_cellLine fuel) v2 o = some r := h
      rcases ifc h with ⟨a, h⟩ | ⟨a, h⟩
      · have a : 8 ≤ v2.toInt := c_le a
        have h := (ifn h).2
        have h : gM_cellLine fuel 1 0 (o.2.1 8 4) o = some r := h
        rw [e8] at h
        exact i1 0 _ o r ho rO (Int.le_refl _) (by omega) hj (fun k q => hk k (by omega)) h81 (by rw [Int.sub_self]; rfl) h
      · have a : v2.toInt < 8 := c_nle a
        have e2 := p_1 (v := v2) h0 (by omega)
        have m8 : (8 * (o.1 79)).toInt = 8 * (c : Int) := by rw [e79, Int32.toInt_mul, ec, i_bm (by rw [show (8 : Int32).toInt = 8 from rfl]; omega) (by rw [show (8 : Int32).toInt = 8 from rfl]; omega)]; rfl
        have m82 : (8 * (o.1 79) + v2).toInt = 8 * (c : Int) + v2.toInt := by rw [Int32.toInt_add, m8, i_bm (by omega) (by omega)]
        have mi : (8 * (o.1 79) + v2).toNatClampNeg = 8 * c + v2.toInt.toNat := by have := tn_n (8 * (o.1 79) + v2); omega
        have ef : (o.2.1 8 1 + v2).toInt = (O.2.1 8 1).toInt + v2.toInt := by rw [e8]; exact i_add' b81.1 (by omega) h0 (by omega)
        have go : ∀ x : Int32, x = nsg O v2.toInt.toNat → (0 : Int) ≤ x.toInt ∧ x.toInt ≤ 255 → fM_cellLine_136 (gM_cellLine fuel) v2 (8 * (o.1 79) + v2) x o = some r → Addd O r c := fun x ex bx h => by
          have h := (ifn (show (if _ then none else gM_cellLine fuel 0 (v2 + 1) 0 (xp o 80 (8 * (o.1 79) + v2).toNatClampNeg x)) = some r from h)).2
          rw [mi] at h
          refine i0 (v2 + 1) (xp o 80 (8 * c + v2.toInt.toNat) x) r (ok_xp ho bx) (fr_xp rO rfl) (by omega) (by omega) (fun j q => ?_) (fun k q => ?_) h81 h
          · show upd (o.2.1 80) (8 * c + v2.toInt.toNat) x j = _
            have n : ¬ j = 8 * c + v2.toInt.toNat := by omega
            rw [up_o n]; exact hj j q
          · show upd (o.2.1 80) (8 * c + v2.toInt.toNat) x (8 * c + k) = _
            by_cases ek : k = v2.toInt.toNat
            · rw [ek, up_s]; exact ex
            · have n : ¬ 8 * c + k = 8 * c + v2.toInt.toNat := by omega
              rw [up_o n]; exact hk k (by omega)
        rw [opk, opk] at h
        have h := (ifn h).2
        rw [opk, opk] at h
        have h := (ifn h).2
        rw [opk] at h
        rcases ifc h with ⟨d, h⟩ | ⟨d, h⟩
        · have d : o.2.1 9 1 ≤ o.2.1 8 1 + v2 := d
          have d := c_le d
          rw [e9] at d
          refine go 0 ?_ ⟨by decide, by decide⟩ h
          unfold nsg
          rw [if_neg (by omega)]
        · have d : ¬ o.2.1 9 1 ≤ o.2.1 8 1 + v2 := d
          have d := c_nle d
          rw [e9] at d
          have h := (ifn h).2
          rw [opk, opk] at h
          have h := (ifn h).2
          have h : fM_cellLine_136 (gM_cellLine fuel) v2 (8 * (o.1 79) + v2) (o.2.1 1 (o.2.1 8 1 + v2).toNatClampNeg) o = some r := h
          have ix : (o.2.1 8 1 + v2).toNatClampNeg = (O.2.1 8 1).toInt.toNat + v2.toInt.toNat := by have := tn_n (o.2.1 8 1 + v2); omega
          refine go _ ?_ (ho.2 1 _) h
          unfold nsg
          rw [if_pos (by omega), e1, ix]
    · intro v2 v3 o r ho rO h0 h1 hj hk h81 hv h
      have e1 : o.2.1 1 = O.2.1 1 := rO.2.1 1 rfl
      have e8 : o.2.1 8 = O.2.1 8 := rO.2.1 8 rfl
      have e9 : o.2.1 9 = O.2.1 9 := rO.2.1 9 rfl
      have e79 : o.1 79 = O.1 79 := rO.1 79 rfl
      have m4 : (4 * (o.1 79)).toInt = 4 * (c : Int) := by rw [e79, Int32.toInt_mul, ec, i_bm (by rw [show (4 : Int32).toInt = 4 from rfl]; omega) (by rw [show (4 : Int32).toInt = 4 from rfl]; omega)]; rfl
      have m4k : ∀ k : Int32, 0 ≤ k.toInt → k.toInt ≤ 3 → (4 * (o.1 79) + k).toNatClampNeg = 4 * c + k.toInt.toNat := fun k q1 q2 => by
        have e : (4 * (o.1 79) + k).toInt = 4 * (c : Int) + k.toInt := by rw [Int32.toInt_add, m4, i_bm (by omega) (by omega)]
        have := tn_n (4 * (o.1 79) + k); omega
      have mi0 : (4 * (o.1 79)).toNatClampNeg = 4 * c := by have := tn_n (4 * (o.1 79)); omega
      have mi1 := m4k 1 (by decide) (by decide)
      have mi2 := m4k 2 (by decide) (by decide)
      have mi3 := m4k 3 (by decide) (by decide)
      have h : fM_cellLine_152 (gM_cellLine fuel) v2 v3 o = some r := h
      have h := (ifn h).2
      rw [opk] at h
      rcases ifc h with ⟨a, h⟩ | ⟨a, h⟩
      · have a : o.2.1 9 4 ≤ v3 := a
        have a := c_le a
        rw [e9] at a
        rw [opk] at h
        obtain ⟨q5, g5, h⟩ := bd h
        have h := (ifn h).2
        rw [opk, opk, opk] at h
        obtain ⟨q12, g12, h⟩ := bd h
        have h := (ifn h).2
        rw [opk, opk, opk] at h
        obtain ⟨q19, g19, h⟩ := bd h
        have h := (ifn h).2
        rw [opk, opk, opk] at h
        have h := (ifn h).2
        have g12 : fM_digitsOf 3 2 (xp o 81 (4 * (o.1 79)).toNatClampNeg q5) = some q12 := g12
        have g19 : fM_pinsOf 4 (xp (xp o 81 (4 * (o.1 79)).toNatClampNeg q5) 81 (4 * (o.1 79) + 1).toNatClampNeg q12) = some q19 := g19
        have h := Option.some.inj (show some (fp (xp (xp (xp (xp o 81 (4 * (o.1 79)).toNatClampNeg q5) 81 (4 * (o.1 79) + 1).toNatClampNeg q12) 81 (4 * (o.1 79) + 2).toNatClampNeg q19) 81 (4 * (o.1 79) + 3).toNatClampNeg v2) 79 ((o.1 79) + 1)) = some r from h)
        rw [mi0] at g12 g19 h
        rw [mi1] at g19 h
        rw [mi2, mi3] at h
        have d5 := digitsOf_sp ho (by decide) (by rw [e8, e9]; exact w2) g5
        have d12 := digitsOf_sp (o := xp o 81 (4 * c) q5) (v1 := 3) (ok_xp ho ⟨by have := Int32.le_toInt q5; exact this, by have := Int32.toInt_le q5; exact this⟩) (by decide) (by show (o.2.1 8 3).toInt < (o.2.1 9 3).toInt; rw [e8, e9]; exact w3) g12
        have d19 := pinsOf_sp (o := xp (xp o 81 (4 * c) q5) 81 (4 * c + 1) q12) (v1 := 4) (ok_xp (ok_xp ho ⟨by have := Int32.le_toInt q5; exact this, by have := Int32.toInt_le q5; exact this⟩) ⟨by have := Int32.le_toInt q12; exact this, by have := Int32.toInt_le q12; exact this⟩) (by show (o.2.1 8 4).toInt < (o.2.1 9 4).toInt; rw [e8, e9]; exact w4) g19
        have d12 : Dg (o.2.1 1) (o.2.1 8 3).toInt (o.2.1 9 3).toInt 2 q12.toInt := d12
        have d19 : Pnq (o.2.1 1) (o.2.1 8 4).toInt (o.2.1 9 4).toInt q19.toInt := d19
        have d5 : Dg (o.2.1 1) (o.2.1 8 2).toInt (o.2.1 9 2).toInt 3 q5.toInt := d5
        rw [e1, e8, e9] at d5 d12 d19
        have ev : v3.toInt = (O.2.1 9 4).toInt := by omega
        rw [ev] at hv
        have u : ∀ i : Nat, r.2.1 81 i = upd (upd (upd (upd (O.2.1 81) (4 * c) q5) (4 * c + 1) q12) (4 * c + 2) q19) (4 * c + 3) v2 i := fun i => by rw [← h, ← h81]; rfl
        refine ⟨?_, ?_, fun j q => ?_, fun k q => ?_, fun j q => ?_, ?_, ?_, ?_, ?_⟩
        · rw [← h]
          refine fr_fp (fr_xp (fr_xp (fr_xp (fr_xp ?_ rfl) rfl) rfl) rfl) rfl
          exact fr_tr fr_rfl rO rfl rfl rfl
        · rw [← h]
          show ((o.1 79) + 1).toInt = _
          rw [e79, p_1 (by omega) (by omega), ec]
        · rw [← h]; exact hj j q
        · rw [← h]; exact hk k q
        · rw [u j, up_o (by omega), up_o (by omega), up_o (by omega), up_o (by omega)]
        · rw [u, up_o (by omega), up_o (by omega), up_o (by omega), up_s]; exact d5
        · rw [u, up_o (by omega), up_o (by omega), up_s]; exact d12
        · rw [u, up_o (by omega), up_s]; exact d19
        · rw [u, up_s]; exact hv
      · have a : ¬ o.2.1 9 4 ≤ v3 := a
        have a := c_nle a
        rw [e9] at a
        have h := (ifn h).2
        rw [opk] at h
        have e3 := p_1 (v := v3) (by omega) (by omega)
        have ei : v3.toNatClampNeg = (O.2.1 8 4).toInt.toNat + (v3.toInt - (O.2.1 8 4).toInt).toNat := by have := tn_n v3; omega
        have em : (v3.toInt + 1 - (O.2.1 8 4).toInt).toNat = (v3.toInt - (O.2.1 8 4).toInt).toNat + 1 := by omega
        have bs := hb (v3.toInt - (O.2.1 8 4).toInt).toNat (by omega)
        rw [← ei] at bs
        have es : (v3 - o.2.1 8 4).toInt = v3.toInt - (O.2.1 8 4).toInt := by rw [e8]; exact i_sub' (by omega) (by omega) b84.1 (by omega)
        have bl := bvl_b (sg := O.2.1 1) (f := (O.2.1 8 4).toInt.toNat) (m := (v3.toInt - (O.2.1 8 4).toInt).toNat) (fun k q => hb k (by omega))
        rcases ifc h with ⟨d, h⟩ | ⟨d, h⟩
        · have d := c_eq d
          rw [e1] at d
          have h := (ifn h).2
          have h : gM_cellLine fuel 1 (v2 ||| ((1 : Int32) <<< ((v3 - o.2.1 8 4) &&& 31))) (v3 + 1) o = some r := h
          refine i1 _ (v3 + 1) o r ho rO (by omega) (by omega) hj hk h81 ?_ h
          have st := bit_s (v := v2) (d := 1) (k := v3 - o.2.1 8 4) (m := (v3.toInt - (O.2.1 8 4).toInt).toNat) hv bl (by omega) (by omega) (Or.inr rfl)
          rw [st, e3, em]
          show _ = ((bvl (O.2.1 1) (O.2.1 8 4).toInt.toNat (v3.toInt - (O.2.1 8 4).toInt).toNat + ((O.2.1 1 ((O.2.1 8 4).toInt.toNat + (v3.toInt - (O.2.1 8 4).toInt).toNat)).toInt - 48).toNat * 2 ^ (v3.toInt - (O.2.1 8 4).toInt).toNat : Nat) : Int)
          rw [← ei, d]; rfl
        · have d := c_ne d
          rw [e1] at d
          refine i1 v2 (v3 + 1) o r ho rO (by omega) (by omega) hj hk h81 ?_ h
          rw [hv, e3, em]
          show _ = ((bvl (O.2.1 1) (O.2.1 8 4).toInt.toNat (v3.toInt - (O.2.1 8 4).toInt).toNat + ((O.2.1 1 ((O.2.1 8 4).toInt.toNat + (v3.toInt - (O.2.1 8 4).toInt).toNat)).toInt - 48).toNat * 2 ^ (v3.toInt - (O.2.1 8 4).toInt).toNat : Nat) : Int)
          rw [← ei, show (O.2.1 1 v3.toNatClampNeg).toInt = 48 from bs.resolve_right d]
          simp
