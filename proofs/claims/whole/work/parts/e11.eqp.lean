def RT (o1 om : cf_O) : Prop := o1.1 3 = om.1 2 ∧ o1.2.1 0 = om.2.1 1
def sgU (x k : Int32) : Int32 := (x.toUInt32 >>> ((8 * k).toUInt32 &&& Int32.toUInt32 31)).toInt32 &&& 255
def sgS (x k : Int32) : Int32 := (x >>> ((8 * k) &&& 31)) &&& 255
theorem sg_e (x : Int32) {k : Int32} (h0 : 0 ≤ k.toInt) (h1 : k.toInt < 4) : sgS x k = sgU x k := by
  have q : ∀ (a b : BitVec 32) (n : Nat), n ≤ 24 → (a.sshiftRight n &&& 255#32) = (a >>> n &&& 255#32) := by
    intro a b n hn
    apply BitVec.eq_of_getLsbD_eq
    intro i hi
    rw [BitVec.getLsbD_and, BitVec.getLsbD_and, BitVec.getLsbD_sshiftRight, BitVec.getLsbD_ushiftRight]
    by_cases h8 : i < 8
    · rw [if_pos (by omega), show (!decide (32 ≤ i)) = true from by rw [decide_eq_false (by omega)]; rfl, Bool.true_and]
    · have z : (255#32).getLsbD i = false := by
        have e : (255#32).getLsbD i = Nat.testBit 255 i := rfl
        rw [e]; exact Nat.testBit_lt_two_pow (Nat.lt_of_lt_of_le (show 255 < 2 ^ 8 by decide) (Nat.pow_le_pow_right (by decide) (by omega)))
      rw [z, Bool.and_false, Bool.and_false]
  rcases (show k.toInt.toNat = 0 ∨ k.toInt.toNat = 1 ∨ k.toInt.toNat = 2 ∨ k.toInt.toNat = 3 by omega) with w | w | w | w
  all_goals
    have ek : k = Int32.ofNat k.toInt.toNat := by
      apply Int32.toInt_inj.mp
      rw [Int32.toInt_ofNat_of_lt (by omega)]
      omega
    rw [w] at ek
    rw [ek]
    apply Int32.toBitVec_inj.mp
  · exact q x.toBitVec x.toBitVec 0 (by decide)
  · exact q x.toBitVec x.toBitVec 8 (by decide)
  · exact q x.toBitVec x.toBitVec 16 (by decide)
  · exact q x.toBitVec x.toBitVec 24 (by decide)
theorem c86 {n : Nat} {x v2 k : Int32} {o0 o1 : cf_O} (hk : ¬ (4 : Int32) ≤ k) : gF_put (n + 1) 1 x v2 k o0 o1 = Option.bind (fTx_add (sgU x k) o1) (fun q => gF_put n 1 x 0 (k + 1) o0 q) := by
  show fF_put_86 (gF_put n) x k o0 o1 = _
  unfold fF_put_86
  rw [if_neg hk]
  rfl
theorem c86e {n : Nat} {x v2 k : Int32} {o0 o1 : cf_O} (hk : (4 : Int32) ≤ k) : gF_put (n + 1) 1 x v2 k o0 o1 = some ((o1.1 3), (fp o0 30 0), o1) := by
  show fF_put_86 (gF_put n) x k o0 o1 = _
  unfold fF_put_86
  rw [if_pos hk]
theorem r118 {n : Nat} {x a b k : Int32} {om : cf_O} (hk : ¬ (4 : Int32) ≤ k) : gM_put (n + 1) 1 x a b k om = (if sgS x k ≤ 0 then gM_put n 1 x 0 0 (k + 1) om else (if (om.1 2) < 0 ∨ 1600 ≤ (om.1 2).toNatClampNeg then none else gM_put n 1 x 0 0 (k + 1) (fp (xp om 1 (om.1 2).toNatClampNeg (sgS x k)) 2 ((om.1 2) + 1)))) := by
  show fM_put_118 (gM_put n) x k om = _
  unfold fM_put_118
  rw [if_neg hk]
  rfl
theorem r118e {n : Nat} {x a b k : Int32} {om : cf_O} (hk : (4 : Int32) ≤ k) : gM_put (n + 1) 1 x a b k om = some (om.1 2, om) := by
  show fM_put_118 (gM_put n) x k om = _
  unfold fM_put_118
  rw [if_pos hk]
theorem le_4 {k : Int32} (h : k.toInt = 4) : (4 : Int32) ≤ k := Int32.le_iff_toInt_le.mpr (by rw [h]; decide)
theorem nle_4 {k : Int32} (h : k.toInt < 4) : ¬ (4 : Int32) ≤ k := fun q => by
  have q := Int32.le_iff_toInt_le.mp q
  rw [show (4 : Int32).toInt = 4 from rfl] at q
  omega
theorem k_1 {k : Int32} (h0 : 0 ≤ k.toInt) (h1 : k.toInt < 4) : (k + 1).toInt = k.toInt + 1 := by
  rw [Int32.toInt_add, show (1 : Int32).toInt = 1 from rfl]
  exact Int.bmod_eq_of_le (by omega) (by omega)
theorem by_8 : ∀ n : Nat, n < 128 → vp_nar .byte ((Int32.ofNat n).toInt8.toInt32) = Int32.ofNat n := by decide +kernel
def okS (s : Int32) : Prop := s = 0 ∨ (0 < s.toInt ∧ s.toInt < 128)
theorem add_0 {o : cf_O} : fTx_add 0 o = some o := rfl
theorem add_1 {s : Int32} {o : cf_O} (h0 : 0 < s.toInt) (h1 : s.toInt < 128) (hn : ¬ ((o.1 3) < 0 ∨ 1600 ≤ (o.1 3).toNatClampNeg)) : fTx_add s o = some (fp (xp o 0 (o.1 3).toNatClampNeg s) 3 ((o.1 3) + 1)) := by
  have e : vp_nar .byte (s.toInt8.toInt32) = s := by
    have t := by_8 s.toInt.toNat (by omega)
    have es : Int32.ofNat s.toInt.toNat = s := by
      apply Int32.toInt_inj.mp
      rw [Int32.toInt_ofNat_of_lt (by omega)]
      omega
    rw [es] at t; exact t
  have hs : ¬ s = 0 := fun q => by rw [q] at h0; exact absurd h0 (by decide)
  have hz : ¬ (1600 : Int32) ≤ (o.1 3) := fun q => hn (by
    have q := Int32.le_iff_toInt_le.mp q
    have z := tn_n (o.1 3)
    rw [show (1600 : Int32).toInt = 1600 from rfl] at q
    right; omega)
  show fTx_add_0 s o = _
  unfold fTx_add_0
  rw [if_neg hs, if_neg hz]
  show (if (o.1 3) < 0 ∨ 1600 ≤ (o.1 3).toNatClampNeg then none else some (fp (xp o 0 (o.1 3).toNatClampNeg (vp_nar .byte (s.toInt8.toInt32))) 3 ((o.1 3) + 1))) = _
  rw [if_neg hn, e]
theorem sg_nn (x k : Int32) : 0 ≤ (sgU x k).toInt := (i_and (y := 255) (by decide)).1
theorem lk2 {x : Int32} (hok : ∀ k : Int32, 0 ≤ k.toInt → k.toInt < 4 → okS (sgU x k)) : ∀ (m n1 n2 : Nat) (k v2 a b : Int32) (o0 o1 om : cf_O) (r : Int32 × cf_O × cf_O) (rm : Int32 × cf_O), k.toInt = 4 - (m : Int) → m ≤ 4 → RT o1 om → gF_put (n1 + m + 1) 1 x v2 k o0 o1 = some r → gM_put (n2 + m + 1) 1 x a b k om = some rm → r.2.1.1 30 = 0 ∧ r.1 = rm.1 ∧ RT r.2.2 rm.2 ∧ rm.2.1 0 = om.1 0
  | 0, n1, n2, k, v2, a, b, o0, o1, om, r, rm, hk, hm, hR, h1, h2 => by
    rw [c86e (le_4 (by omega))] at h1
    rw [r118e (le_4 (by omega))] at h2
    injection h1 with h1
    injection h2 with h2
    rw [← h1, ← h2]
    exact ⟨rfl, hR.1, hR, rfl⟩
  | m + 1, n1, n2, k, v2, a, b, o0, o1, om, r, rm, hk, hm, hR, h1, h2 => by
    have k0 : 0 ≤ k.toInt := by omega
    have k4 : k.toInt < 4 := by omega
    have k1 := k_1 k0 k4
    rw [show n1 + (m + 1) + 1 = (n1 + m + 1) + 1 by omega, c86 (nle_4 k4)] at h1
    rw [show n2 + (m + 1) + 1 = (n2 + m + 1) + 1 by omega, r118 (nle_4 k4), sg_e x k0 k4] at h2
    rcases hok k k0 k4 with z | ⟨z0, z1⟩
    · rw [z, add_0] at h1
      rw [z, if_pos (by decide)] at h2
      exact lk2 hok m n1 n2 (k + 1) 0 0 0 o0 o1 om r rm (by omega) (by omega) hR h1 h2
    · have z2 : ¬ sgU x k ≤ 0 := fun q => by
        have q := Int32.le_iff_toInt_le.mp q
        rw [show (0 : Int32).toInt = 0 from rfl] at q
        omega
      rw [if_neg z2] at h2
      by_cases hn : (om.1 2) < 0 ∨ 1600 ≤ (om.1 2).toNatClampNeg
      · rw [if_pos hn] at h2; cases h2
      · rw [if_neg hn] at h2
        rw [add_1 z0 z1 (by rw [hR.1]; exact hn)] at h1
        have hR2 : RT (fp (xp o1 0 (o1.1 3).toNatClampNeg (sgU x k)) 3 ((o1.1 3) + 1)) (fp (xp om 1 (om.1 2).toNatClampNeg (sgU x k)) 2 ((om.1 2) + 1)) := by
          refine ⟨?_, ?_⟩
          · show (o1.1 3) + 1 = (om.1 2) + 1
            rw [hR.1]
          · show upd (o1.2.1 0) (o1.1 3).toNatClampNeg (sgU x k) = upd (om.2.1 1) (om.1 2).toNatClampNeg (sgU x k)
            rw [hR.1, hR.2]
        have t := lk2 hok m n1 n2 (k + 1) 0 0 0 o0 _ _ r rm (by omega) (by omega) hR2 h1 h2
        exact t
theorem c4z {n : Nat} {x v2 k : Int32} {o0 o1 : cf_O} (hk : ¬ (4 : Int32) ≤ k) (hs : sgU x k = 0) : gF_put (n + 1) 0 x v2 k o0 o1 = gF_put n 0 x (v2 + 0) (k + 1) o0 o1 := by
  show fF_put_4 (gF_put n) x v2 k o0 o1 = _
  unfold fF_put_4
  rw [if_neg hk]
  show (if sgU x k = 0 then fF_put_42 (gF_put n) x v2 k (sgU x k) o0 o1 else _) = _
  rw [if_pos hs]
  unfold fF_put_42
  rw [if_pos hs]
  rfl
theorem c4s {n : Nat} {x v2 k : Int32} {o0 o1 : cf_O} (hk : ¬ (4 : Int32) ≤ k) (hs : ¬ sgU x k = 0) : gF_put (n + 1) 0 x v2 k o0 o1 = Option.bind (fTx_isSign (sgU x k)) (fun q => if q = (0 : Int32) then some (0, fp o0 30 1, o1) else gF_put n 0 x (v2 + 1) (k + 1) o0 o1) := by
  show fF_put_4 (gF_put n) x v2 k o0 o1 = _
  unfold fF_put_4
  rw [if_neg hk]
  show (if sgU x k = 0 then _ else Option.bind (fTx_isSign (sgU x k)) (fun q => fF_put_31 (gF_put n) x v2 k (sgU x k) q o0 o1)) = _
  rw [if_neg hs]
  congr 1
  funext q
  unfold fF_put_31 fF_put_42
  rw [if_neg hs]
  rfl
theorem c4e {n : Nat} {x v2 k : Int32} {o0 o1 : cf_O} (hk : (4 : Int32) ≤ k) : gF_put (n + 1) 0 x v2 k o0 o1 = (if (o1.1 3) + v2 ≤ (1600 : Int32) then gF_put n 1 x 0 0 o0 o1 else some (0, (fp o0 30 4), o1)) := by
  show fF_put_4 (gF_put n) x v2 k o0 o1 = _
  unfold fF_put_4
  rw [if_pos hk]
  rfl
theorem r106b {rc : Nat → Int32 → Int32 → Int32 → Int32 → cf_O → Option (Int32 × cf_O)} {x s2 : Int32} {om : cf_O} : fM_put_106 rc x 1 s2 om = some (0, fp om 0 1) := rfl
theorem r106o {rc : Nat → Int32 → Int32 → Int32 → Int32 → cf_O → Option (Int32 × cf_O)} {x : Int32} {om : cf_O} : fM_put_106 rc x 0 1 om = some (0, fp om 0 2) := rfl
theorem r106g {rc : Nat → Int32 → Int32 → Int32 → Int32 → cf_O → Option (Int32 × cf_O)} {x : Int32} {om : cf_O} : fM_put_106 rc x 0 0 om = rc 1 x 0 0 0 (fp om 0 0) := rfl
theorem r7e {n : Nat} {x v2 v3 k : Int32} {om : cf_O} (hk : (4 : Int32) ≤ k) : gM_put (n + 1) 0 x v2 v3 k om = (if v3 = 0 then fM_put_89 (gM_put n) x v2 1 om else fM_put_89 (gM_put n) x v2 0 om) := by
  show fM_put_7 (gM_put n) x v2 v3 k om = _
  unfold fM_put_7
  rw [if_pos hk]
theorem r7 {n : Nat} {x v2 v3 k : Int32} {om : cf_O} (hk : ¬ (4 : Int32) ≤ k) : gM_put (n + 1) 0 x v2 v3 k om = (if v3 = (0 : Int32) then fM_put_59 (gM_put n) x v2 k (sgS x k) 0 om else (if sgS x k = (0 : Int32) then fM_put_59 (gM_put n) x v2 k (sgS x k) 1 om else (if sgS x k = (10 : Int32) then fM_put_59 (gM_put n) x v2 k (sgS x k) 1 om else Option.bind (fM_in (sgS x k) 32 126) (fun q => (if q = (0 : Int32) then fM_put_59 (gM_put n) x v2 k (sgS x k) 0 om else fM_put_59 (gM_put n) x v2 k (sgS x k) 1 om))))) := by
  show fM_put_7 (gM_put n) x v2 v3 k om = _
  unfold fM_put_7
  rw [if_neg hk]
  rfl
theorem r59 {n : Nat} {x v2 k s f : Int32} {om : cf_O} : fM_put_59 (gM_put n) x v2 k s f om = gM_put n 0 x (if s ≤ 0 then v2 else v2 + 1) f (k + 1) om := by
  unfold fM_put_59
  by_cases h : s ≤ (0 : Int32)
  · rw [if_pos h, if_pos h]; rfl
  · rw [if_neg h, if_neg h]; rfl
theorem rbad {x : Int32} : ∀ (m n : Nat) (k v2 : Int32) (om : cf_O) (rm : Int32 × cf_O), k.toInt = 4 - (m : Int) → m ≤ 4 → gM_put (n + m + 1) 0 x v2 0 k om = some rm → rm = (0, fp om 0 1)
  | 0, n, k, v2, om, rm, hk, hm, h => by
    rw [r7e (le_4 (by omega)), if_pos rfl] at h
    have h : (if (om.1 2) + v2 ≤ (1600 : Int32) then fM_put_106 (gM_put (n + 0)) x 1 0 om else fM_put_106 (gM_put (n + 0)) x 1 1 om) = some rm := h
    rw [r106b, r106b] at h
    split at h <;> (injection h with h; exact h.symm)
  | m + 1, n, k, v2, om, rm, hk, hm, h => by
    have k1 := k_1 (k := k) (by omega) (by omega)
    rw [show n + (m + 1) + 1 = (n + m + 1) + 1 by omega, r7 (nle_4 (by omega)), if_pos rfl, r59] at h
    exact rbad m n (k + 1) _ om rm (by omega) (by omega) h
def PutC (r : Int32 × cf_O × cf_O) (rm : Int32 × cf_O) : Prop := (r.2.1.1 30 = 0 → rm.2.1 0 = 0 ∧ r.1 = rm.1) ∧ (r.2.1.1 30 = 1 → rm.2.1 0 = 1) ∧ (r.2.1.1 30 = 4 → rm.2.1 0 = 2) ∧ RT r.2.2 rm.2
theorem is_10 : fTx_isSign 10 = some 1 := rfl
theorem is_lo {s : Int32} (h : ¬ s = 10) (h1 : s < 32) : fTx_isSign s = some 0 := by
  show fTx_isSign_0 s = _
  unfold fTx_isSign_0
  rw [if_neg h, if_pos h1]; rfl
theorem is_hi {s : Int32} (h : ¬ s = 10) (h1 : ¬ s < 32) (h2 : (126 : Int32) < s) : fTx_isSign s = some 0 := by
  show fTx_isSign_0 s = _
  unfold fTx_isSign_0
  rw [if_neg h, if_neg h1, if_pos h2]; rfl
theorem is_ok {s : Int32} (h : ¬ s = 10) (h1 : ¬ s < 32) (h2 : ¬ (126 : Int32) < s) : fTx_isSign s = some 1 := by
  show fTx_isSign_0 s = _
  unfold fTx_isSign_0
  rw [if_neg h, if_neg h1, if_neg h2]; rfl
theorem in_lo {s a b : Int32} (h1 : s < a) : fM_in s a b = some 0 := by
  show fM_in_0 s a b = _
  unfold fM_in_0
  rw [if_pos h1]; rfl
theorem in_hi {s a b : Int32} (h1 : ¬ s < a) (h2 : b < s) : fM_in s a b = some 0 := by
  show fM_in_0 s a b = _
  unfold fM_in_0
  rw [if_neg h1, if_pos h2]; rfl
theorem in_ok {s a b : Int32} (h1 : ¬ s < a) (h2 : ¬ b < s) : fM_in s a b = some 1 := by
  show fM_in_0 s a b = _
  unfold fM_in_0
  rw [if_neg h1, if_neg h2]; rfl
theorem lk1 {x : Int32} : ∀ (m n1 n2 : Nat) (k v2 : Int32) (o0 o1 om : cf_O) (r : Int32 × cf_O × cf_O) (rm : Int32 × cf_O), k.toInt = 4 - (m : Int) → m ≤ 4 → RT o1 om → (∀ j : Int32, 0 ≤ j.toInt → j.toInt < k.toInt → okS (sgU x j)) → gF_put (n1 + 5 + m + 1) 0 x v2 k o0 o1 = some r → gM_put (n2 + 5 + m + 1) 0 x v2 1 k om = some rm → PutC r rm
  | 0, n1, n2, k, v2, o0, o1, om, r, rm, hk, hm, hR, hok, h1, h2 => by
    rw [c4e (le_4 (by omega))] at h1
    rw [r7e (le_4 (by omega)), if_neg (by decide)] at h2
    have h2 : (if (om.1 2) + v2 ≤ (1600 : Int32) then fM_put_106 (gM_put (n2 + 5 + 0)) x 0 0 om else fM_put_106 (gM_put (n2 + 5 + 0)) x 0 1 om) = some rm := h2
    rw [r106g, r106o, ← hR.1] at h2
    by_cases q : (o1.1 3) + v2 ≤ (1600 : Int32)
    · rw [if_pos q] at h1 h2
      obtain ⟨a1, a2, a3, a4⟩ := lk2 (fun j j0 j4 => hok j j0 (by omega)) 4 n1 n2 0 0 0 0 o0 o1 (fp om 0 0) r rm (by decide) (by decide) ⟨hR.1, hR.2⟩ h1 h2
      exact ⟨fun _ => ⟨a4, a2⟩, fun e => absurd (a1.symm.trans e) (by decide), fun e => absurd (a1.symm.trans e) (by decide), a3⟩
    · rw [if_neg q] at h1 h2
      injection h1 with h1
      injection h2 with h2
      rw [← h1, ← h2]
      exact ⟨fun e => absurd e (by show ¬ (4 : Int32) = 0; decide), fun e => absurd e (by show ¬ (4 : Int32) = 1; decide), fun _ => rfl, ⟨hR.1, hR.2⟩⟩
  | m + 1, n1, n2, k, v2, o0, o1, om, r, rm, hk, hm, hR, hok, h1, h2 => by
    have k0 : 0 ≤ k.toInt := by omega
    have k4 : k.toInt < 4 := by omega
    have k1 := k_1 k0 k4
    have nn := sg_nn x k
    rw [show n1 + 5 + (m + 1) + 1 = (n1 + 5 + m + 1) + 1 by omega] at h1
    rw [show n2 + 5 + (m + 1) + 1 = (n2 + 5 + m + 1) + 1 by omega, r7 (nle_4 k4), if_neg (by decide), sg_e x k0 k4] at h2
    have step : okS (sgU x k) → ∀ j : Int32, 0 ≤ j.toInt → j.toInt < (k + 1).toInt → okS (sgU x j) := fun hs j j0 j1 => by
      by_cases e : j.toInt = k.toInt
      · rw [Int32.toInt_inj.mp e]; exact hs
      · exact hok j j0 (by omega)
    by_cases z : sgU x k = 0
    · rw [c4z (nle_4 k4) z, Int32.add_zero] at h1
      rw [if_pos z, r59, z, if_pos (by decide)] at h2
      exact lk1 m n1 n2 (k + 1) v2 o0 o1 om r rm (by omega) (by omega) hR (step (Or.inl z)) h1 h2
    · rw [c4s (nle_4 k4) z] at h1
      rw [if_neg z] at h2
      have zp : ¬ sgU x k ≤ 0 := fun q => z (Int32.toInt_inj.mp (by
        have q := Int32.le_iff_toInt_le.mp q
        rw [show (0 : Int32).toInt = 0 from rfl] at q ⊢
        omega))
      have bad : fTx_isSign (sgU x k) = some 0 → gM_put (n2 + 5 + m + 1) 0 x (v2 + 1) 0 (k + 1) om = some rm → PutC r rm := fun b1 b2 => by
        rw [b1] at h1
        have h1 : some (0, fp o0 30 1, o1) = some r := h1
        injection h1 with h1
        have e := rbad m (n2 + 5) (k + 1) (v2 + 1) om rm (by omega) (by omega) b2
        rw [← h1, e]
        exact ⟨fun e => absurd e (by show ¬ (1 : Int32) = 0; decide), fun _ => rfl, fun e => absurd e (by show ¬ (1 : Int32) = 4; decide), ⟨hR.1, hR.2⟩⟩
      have good : fTx_isSign (sgU x k) = some 1 → okS (sgU x k) → gM_put (n2 + 5 + m + 1) 0 x (v2 + 1) 1 (k + 1) om = some rm → PutC r rm := fun b1 b3 b2 => by
        rw [b1] at h1
        exact lk1 m n1 n2 (k + 1) (v2 + 1) o0 o1 om r rm (by omega) (by omega) hR (step b3) h1 b2
      by_cases t : sgU x k = 10
      · rw [if_pos t, r59, if_neg zp] at h2
        exact good (by rw [t]; exact is_10) (Or.inr (by rw [t]; decide)) h2
      · rw [if_neg t] at h2
        by_cases lo : sgU x k < 32
        · rw [in_lo lo] at h2
          have h2 : fM_put_59 (gM_put (n2 + 5 + m + 1)) x v2 k (sgU x k) 0 om = some rm := h2
          rw [r59, if_neg zp] at h2
          exact bad (is_lo t lo) h2
        · by_cases hi : (126 : Int32) < sgU x k
          · rw [in_hi lo hi] at h2
            have h2 : fM_put_59 (gM_put (n2 + 5 + m + 1)) x v2 k (sgU x k) 0 om = some rm := h2
            rw [r59, if_neg zp] at h2
            exact bad (is_hi t lo hi) h2
          · rw [in_ok lo hi] at h2
            have h2 : fM_put_59 (gM_put (n2 + 5 + m + 1)) x v2 k (sgU x k) 1 om = some rm := h2
            rw [r59, if_neg zp] at h2
            have h32 : 32 ≤ (sgU x k).toInt := by
              have : ¬ (sgU x k).toInt < (32 : Int32).toInt := fun q => lo (Int32.lt_iff_toInt_lt.mpr q)
              rw [show (32 : Int32).toInt = 32 from rfl] at this; omega
            have h126 : (sgU x k).toInt ≤ 126 := by
              have : ¬ (126 : Int32).toInt < (sgU x k).toInt := fun q => hi (Int32.lt_iff_toInt_lt.mpr q)
              rw [show (126 : Int32).toInt = 126 from rfl] at this; omega
            exact good (is_ok t lo hi) (Or.inr ⟨by omega, by omega⟩) h2
theorem eq_put {x : Int32} {o0 o1 om : cf_O} {r : Int32 × cf_O × cf_O} {rm : Int32 × cf_O} (hR : RT o1 om) (h1 : fF_put x o0 o1 = some r) (h2 : fM_put x om = some rm) : PutC r rm :=
  lk1 4 999999999990 999999999990 0 0 o0 o1 om r rm (by decide) (by decide) hR (fun j j0 j1 => absurd j1 (by rw [show (0 : Int32).toInt = 0 from rfl]; omega)) h1 h2
def EndC (r : cf_O × cf_O) (rm : cf_O) : Prop := (r.1.1 30 = 0 → rm.1 0 = 0) ∧ (r.1.1 30 = 1 → rm.1 0 = 1) ∧ RT r.2 rm
theorem e18b {x : Int32} {om : cf_O} : fM_end_18 x 1 om = some (fp om 0 1) := rfl
theorem e18g {x : Int32} {om : cf_O} : fM_end_18 x 0 om = some (fp (fp om 0 0) 2 x) := rfl
theorem eq_end {x : Int32} {o0 o1 om : cf_O} {r : cf_O × cf_O} {rm : cf_O} (hR : RT o1 om) (h1 : fF_end x o0 o1 = some r) (h2 : fM_end x om = some rm) : EndC r rm := by
  have h1 : (if x < (0 : Int32) then some ((fp o0 30 1), o1) else (if x ≤ (o1.1 3) then some ((fp o0 30 0), fp o1 3 x) else some ((fp o0 30 1), o1))) = some r := h1
  have h2 : Option.bind (fM_in x 0 (om.1 2)) (fun q => (if q = (0 : Int32) then fM_end_18 x 1 om else fM_end_18 x 0 om)) = some rm := h2
  rw [e18b, e18g] at h2
  by_cases lo : x < (0 : Int32)
  · rw [if_pos lo] at h1
    rw [in_lo lo] at h2
    have h2 : some (fp om 0 1) = some rm := h2
    injection h1 with h1
    injection h2 with h2
    rw [← h1, ← h2]
    exact ⟨fun e => absurd e (by show ¬ (1 : Int32) = 0; decide), fun _ => rfl, ⟨hR.1, hR.2⟩⟩
  · rw [if_neg lo] at h1
    by_cases hi : (om.1 2) < x
    · have hi2 : ¬ x ≤ (o1.1 3) := fun q => by
        rw [hR.1] at q
        have a := Int32.lt_iff_toInt_lt.mp hi
        have b := Int32.le_iff_toInt_le.mp q
        omega
      rw [if_neg hi2] at h1
      rw [in_hi lo hi] at h2
      have h2 : some (fp om 0 1) = some rm := h2
      injection h1 with h1
      injection h2 with h2
      rw [← h1, ← h2]
      exact ⟨fun e => absurd e (by show ¬ (1 : Int32) = 0; decide), fun _ => rfl, ⟨hR.1, hR.2⟩⟩
    · have hi2 : x ≤ (o1.1 3) := by
        rw [hR.1]
        apply Int32.le_iff_toInt_le.mpr
        have : ¬ (om.1 2).toInt < x.toInt := fun q => hi (Int32.lt_iff_toInt_lt.mpr q)
        omega
      rw [if_pos hi2] at h1
      rw [in_ok lo hi] at h2
      have h2 : some (fp (fp om 0 0) 2 x) = some rm := h2
      injection h1 with h1
      injection h2 with h2
      rw [← h1, ← h2]
      exact ⟨fun _ => rfl, fun e => absurd e (by show ¬ (0 : Int32) = 1; decide), ⟨rfl, hR.2⟩⟩
