theorem btn {v : Int32} {k : Nat} (h : 0 ≤ v.toInt) : bt v k = v.toInt.toNat.testBit k := by
  unfold bt
  have e : v.toInt = if 2 * v.toBitVec.toNat < 2 ^ 32 then (v.toBitVec.toNat : Int) else (v.toBitVec.toNat : Int) - ((2 ^ 32 : Nat) : Int) := BitVec.toInt_eq_toNat_cond v.toBitVec
  have l := v.toBitVec.isLt
  have z : v.toBitVec.toNat = v.toInt.toNat := by
    by_cases c : 2 * v.toBitVec.toNat < 2 ^ 32
    · rw [if_pos c] at e; omega
    · rw [if_neg c] at e; omega
  rw [z]
theorem s1_n : ∀ k : Nat, k < 9 → ((1 : Int32) <<< ((Int32.ofNat k) &&& 31)).toInt = ((2 ^ k : Nat) : Int) := by decide +kernel
theorem rows_i {b n : Nat} {gr om : cf_O} (R : RGq b n gr om) : ((1 : Int32) <<< ((om.1 39) &&& 31)).toInt = ((2 ^ (b - 1) : Nat) : Int) := by
  obtain ⟨⟨_, _, e39, e0, _, _, b1, b9⟩, _⟩ := R
  have z := s1_n (b - 1) (by omega)
  rw [show Int32.ofNat (b - 1) = om.1 39 from by rw [e39, of_i (x := gr.1 0) (by omega)]; congr 1; omega] at z
  exact z
def ouV (V : Nat → Nat → Bool) (gr : cf_O) (i : Nat) : Nat → Int32
  | 0 => 0
  | k + 1 => if lvq V (gr.2.1 7 k) i = true then ouV V gr i k ||| ((1 : Int32) <<< ((Int32.ofNat k) &&& 31)) else ouV V gr i k
def VlC (b n i : Nat) (V : Nat → Nat → Bool) (gr OM : cf_O) (r : Int32 × cf_O) : Prop := r.1 = ouV V gr i (gr.1 1).toInt.toNat ∧ Fr (fr_M [] [75] []) OM r.2 ∧ ∀ k : Nat, k < b + n → r.2.2.1 75 k = bI (V k i)
theorem vl_146 {rc : Nat → Int32 → Int32 → Int32 → cf_O → Option (Int32 × cf_O)} {v2 s1 s2 : Int32} {om : cf_O} {r : Int32 × cf_O} (hs : vp_nar .boolean s2 = s2) (h : fM_value_146 rc v2 s1 s2 om = some r) : rc 1 0 (v2 + 1) 0 (xp om 75 s1.toNatClampNeg s2) = some r := by
  unfold fM_value_146 at h
  have h := (ifn h).2
  rw [opk, opk, hs] at h
  exact h
theorem vl_88 {rc : Nat → Int32 → Int32 → Int32 → cf_O → Option (Int32 × cf_O)} {v1 v2 s1 s2 : Int32} {om : cf_O} {r : Int32 × cf_O} (hs : vp_nar .boolean s2 = s2) (h : fM_value_88 rc v1 v2 s1 s2 om = some r) : rc 0 v1 (v2 + 1) 0 (xp om 75 s1.toNatClampNeg s2) = some r := by
  unfold fM_value_88 at h
  have h := (ifn h).2
  rw [opk, opk, hs] at h
  exact h
theorem vl_go {b n i : Nat} {V : Nat → Nat → Bool} {gr OM : cf_O} {v1 : Int32} (G : GW b n gr) (S : VSq b n gr V) (R0 : RGq b n gr OM) (v0 : 0 ≤ v1.toInt) (ei : i = v1.toInt.toNat) : ∀ fuel : Nat,
    (∀ (v2 : Int32) (om : cf_O) (r : Int32 × cf_O), Fr (fr_M [] [75] []) OM om → 0 ≤ v2.toInt → v2.toInt + 1 ≤ (b : Int) → (∀ k : Nat, (k : Int) ≤ v2.toInt → om.2.1 75 k = bI (V k i)) → gM_value fuel 0 v1 v2 0 om = some r → VlC b n i V gr OM r) ∧
    (∀ (v2 : Int32) (om : cf_O) (r : Int32 × cf_O), Fr (fr_M [] [75] []) OM om → 0 ≤ v2.toInt → v2.toInt ≤ (n : Int) → (∀ k : Nat, (k : Int) < (b : Int) + v2.toInt → om.2.1 75 k = bI (V k i)) → gM_value fuel 1 0 v2 0 om = some r → VlC b n i V gr OM r) ∧
    (∀ (v2 v3 : Int32) (om : cf_O) (r : Int32 × cf_O), Fr (fr_M [] [75] []) OM om → 0 ≤ v3.toInt → v3.toInt ≤ (gr.1 1).toInt → v2 = ouV V gr i v3.toInt.toNat → (∀ k : Nat, k < b + n → om.2.1 75 k = bI (V k i)) → gM_value fuel 2 0 v2 v3 om = some r → VlC b n i V gr OM r)
  | 0 => ⟨fun _ _ _ _ _ _ _ h => (by cases h), fun _ _ _ _ _ _ _ h => (by cases h), fun _ _ _ _ _ _ _ _ _ h => (by cases h)⟩
  | fuel + 1 => by
    obtain ⟨i0, i1, i2⟩ := vl_go G S R0 v0 ei fuel
    have z0 : (0 : Int32).toInt = 0 := rfl
    have G0 := G.1
    obtain ⟨S1, S2, S3⟩ := S
    have cR : ∀ om : cf_O, Fr (fr_M [] [75] []) OM om → RGq b n gr om := fun om fo => RGq_f R0 (fo.1 39 rfl) (fo.1 40 rfl) (fo.1 43 rfl) (fo.2.1 44 rfl) (fo.2.1 45 rfl) (fo.2.1 46 rfl) (fo.2.1 47 rfl)
    refine ⟨?_, ?_, ?_⟩
    · intro v2 om r fo h0 h1 hz h
      have R := cR om fo
      have e39 : (om.1 39).toInt + 1 = (b : Int) := by rw [R.1.2.2.1]; exact R.1.2.2.2.1
      have h : fM_value_59 (gM_value fuel) v1 v2 om = some r := h
      unfold fM_value_59 at h
      rcases ifc h with ⟨a, h⟩ | ⟨a, h⟩
      · have a := c_le a
        exact i1 0 om r fo (by decide) (by rw [z0]; omega) (fun k hk => hz k (by rw [z0] at hk; omega)) h
      · have a := c_nle a
        have e2 := p_1 (v := v2) h0 (by omega)
        have iv : (v2 + 1).toNatClampNeg = v2.toInt.toNat + 1 := by have := tn_n (v2 + 1); omega
        rw [opk, opk, opk] at h
        have tb := bt_t (x := v1) (v := v2) rfl rfl v0 h0 (by omega)
        rw [btn v0, ← ei] at tb
        have vk := S2 (v2.toInt.toNat + 1) i (by omega) (by omega)
        have vk : V (v2.toInt.toNat + 1) i = i.testBit v2.toInt.toNat := vk
        have go : ∀ s : Int32, s = bI (V (v2.toInt.toNat + 1) i) → gM_value fuel 0 v1 (v2 + 1) 0 (xp om 75 (v2 + 1).toNatClampNeg s) = some r → VlC b n i V gr OM r := fun s es q => by
          rw [iv] at q
          refine i0 (v2 + 1) (xp om 75 (v2.toInt.toNat + 1) s) r (fr_xp fo rfl) (by omega) (by omega) (fun k hk => ?_) q
          show upd (om.2.1 75) (v2.toInt.toNat + 1) s k = _
          by_cases e : k = v2.toInt.toNat + 1
          · rw [e, up_s]; exact es
          · rw [up_o e]; exact hz k (by omega)
        rcases ifc h with ⟨c, h⟩ | ⟨c, h⟩
        · rcases tb with ⟨t, _⟩ | ⟨_, t⟩
          · rw [c] at t; exact absurd t (by decide)
          · exact go 1 (by rw [vk, t]; rfl) (vl_88 vb_1 h)
        · rcases tb with ⟨_, t⟩ | ⟨t1, t⟩
          · exact go 0 (by rw [vk, t]; rfl) (vl_88 vb_0 h)
          · exfalso
            have sh0 : 0 ≤ (v1 >>> (v2 &&& 31)).toInt := by rw [i_shr v0 h0 (by omega)]; exact Int.ediv_nonneg v0 (Int.le_of_lt (Int.pow_pos (by decide)))
            have a1 := i_a1 sh0
            exact c (Int32.toInt_inj.mp (by rw [show (1 : Int32).toInt = 1 from rfl]; omega))
    · intro v2 om r fo h0 h1 hz h
      have R := cR om fo
      have n43 := R.1.1
      have h : fM_value_97 (gM_value fuel) v2 om = some r := h
      unfold fM_value_97 at h
      rcases ifc h with ⟨a, h⟩ | ⟨a, h⟩
      · have a := c_le a
        exact i2 0 0 om r fo (by decide) (by rw [z0]; omega) rfl (fun k hk => hz k (by omega)) h
      · have a := c_nle a
        obtain ⟨q, hq, h⟩ := bd h
        have eb := base_sp R hq
        have e2 := p_1 (v := v2) h0 (by omega)
        have iv : v2.toNatClampNeg = v2.toInt.toNat := by have := tn_n v2; omega
        have eqv : (q + v2).toInt = (b : Int) + v2.toInt := by rw [Int32.toInt_add, eb, i_bm (by omega) (by omega)]
        have iq : (q + v2).toNatClampNeg = b + v2.toInt.toNat := by have := tn_n (q + v2); omega
        have gl := R.2.1 v2.toInt.toNat (by omega)
        have gg := G.2.1 v2.toInt.toNat (by omega)
        have vg := S3 v2.toInt.toNat i (by omega)
        have go : ∀ s : Int32, s = bI (V (b + v2.toInt.toNat) i) → gM_value fuel 1 0 (v2 + 1) 0 (xp om 75 (q + v2).toNatClampNeg s) = some r → VlC b n i V gr OM r := fun s es z => by
          rw [iq] at z
          refine i1 (v2 + 1) (xp om 75 (b + v2.toInt.toNat) s) r (fr_xp fo rfl) (by omega) (by omega) (fun k hk => ?_) z
          show upd (om.2.1 75) (b + v2.toInt.toNat) s k = _
          by_cases e : k = b + v2.toInt.toNat
          · rw [e, up_s]; exact es
          · rw [up_o e]; exact hz k (by omega)
        have k145 : fM_value_145 (gM_value fuel) v2 (q + v2) om = some r → gM_value fuel 1 0 (v2 + 1) 0 (xp om 75 (q + v2).toNatClampNeg 0) = some r := fun z => vl_146 vb_0 z
        rw [opk] at h
        have h := (ifn h).2
        rw [opk, iv, gl.1] at h
        obtain ⟨x, hx, h⟩ := bd h
        have ex := is_sp (v := V ((gr.2.1 4 (b + v2.toInt.toNat)).toInt.toNat / 2) i) (by omega) (hz _ (by omega)) hx
        have ex : x = bI (lvq V (gr.2.1 4 (b + v2.toInt.toNat)) i) := ex
        rcases ifc h with ⟨c, h⟩ | ⟨c, h⟩
        · rw [ex] at c
          exact go 0 (by rw [vg, bI_0.mp c]; rfl) (k145 h)
        · rw [ex] at c
          have cx : lvq V (gr.2.1 4 (b + v2.toInt.toNat)) i = true := by
            cases y : lvq V (gr.2.1 4 (b + v2.toInt.toNat)) i with
            | true => rfl
            | false => rw [y] at c; exact absurd rfl c
          have h := (ifn h).2
          rw [opk, gl.2] at h
          obtain ⟨y, hy, h⟩ := bd h
          have ey := is_sp (v := V ((gr.2.1 5 (b + v2.toInt.toNat)).toInt.toNat / 2) i) (by omega) (hz _ (by omega)) hy
          have ey : y = bI (lvq V (gr.2.1 5 (b + v2.toInt.toNat)) i) := ey
          rcases ifc h with ⟨d, h⟩ | ⟨d, h⟩
          · rw [ey] at d
            exact go 0 (by rw [vg, bI_0.mp d, Bool.and_false]; rfl) (k145 h)
          · rw [ey] at d
            have cy : lvq V (gr.2.1 5 (b + v2.toInt.toNat)) i = true := by
              cases w : lvq V (gr.2.1 5 (b + v2.toInt.toNat)) i with
              | true => rfl
              | false => rw [w] at d; exact absurd rfl d
            exact go 1 (by rw [vg, cx, cy]; rfl) (vl_146 vb_1 h)
    · intro v2 v3 om r fo h0 h1 ea hz h
      have R := cR om fo
      have e40 : om.1 40 = gr.1 1 := R.1.2.2.2.2.1
      have h : fM_value_157 (gM_value fuel) v2 v3 om = some r := h
      unfold fM_value_157 at h
      rcases ifc h with ⟨a, h⟩ | ⟨a, h⟩
      · have a := c_le a
        rw [e40] at a
        rw [← Option.some.inj h]
        exact ⟨by show v2 = _; rw [ea, show v3.toInt.toNat = (gr.1 1).toInt.toNat from by omega], fo, hz⟩
      · have a := c_nle a
        rw [e40] at a
        have e3 := p_1 (v := v3) h0 (by omega)
        have iv : v3.toNatClampNeg = v3.toInt.toNat := by have := tn_n v3; omega
        have ob := G.2.2 v3.toInt.toNat (by omega)
        have h := (ifn h).2
        rw [opk, iv, R.2.2.2.1 v3.toInt.toNat (by omega)] at h
        obtain ⟨x, hx, h⟩ := bd h
        have ex := is_sp (v := V ((gr.2.1 7 v3.toInt.toNat).toInt.toNat / 2) i) ob.1 (hz _ (by omega)) hx
        have ex : x = bI (lvq V (gr.2.1 7 v3.toInt.toNat) i) := ex
        have k187 : ∀ s : Int32, fM_value_187 (gM_value fuel) v3 s om = some r → gM_value fuel 2 0 s (v3 + 1) om = some r := fun s z => by
          unfold fM_value_187 at z
          rw [opk] at z
          exact z
        have e31 : (v3 + 1).toInt.toNat = v3.toInt.toNat + 1 := by omega
        have o3 : Int32.ofNat v3.toInt.toNat = v3 := (of_i h0).symm
        rcases ifc h with ⟨c, h⟩ | ⟨c, h⟩
        · rw [ex] at c
          refine i2 v2 (v3 + 1) om r fo (by omega) (by omega) ?_ hz (k187 _ h)
          rw [e31, ea]
          show _ = if lvq V (gr.2.1 7 v3.toInt.toNat) i = true then _ else _
          rw [if_neg (by rw [bI_0.mp c]; decide)]
        · rw [ex] at c
          have cx : lvq V (gr.2.1 7 v3.toInt.toNat) i = true := by
            cases y : lvq V (gr.2.1 7 v3.toInt.toNat) i with
            | true => rfl
            | false => rw [y] at c; exact absurd rfl c
          rw [opk, opk] at h
          refine i2 _ (v3 + 1) om r fo (by omega) (by omega) ?_ hz (k187 _ h)
          rw [e31]
          show _ = if lvq V (gr.2.1 7 v3.toInt.toNat) i = true then ouV V gr i v3.toInt.toNat ||| ((1 : Int32) <<< ((Int32.ofNat v3.toInt.toNat) &&& 31)) else _
          rw [if_pos cx, o3, ← ea]
theorem value_sp {b n : Nat} {V : Nat → Nat → Bool} {gr om : cf_O} {v1 : Int32} {r : Int32 × cf_O} (G : GW b n gr) (S : VSq b n gr V) (R : RGq b n gr om) (h38 : om.1 38 = 1) (v0 : 0 ≤ v1.toInt) (vr : v1.toInt < ((2 ^ (b - 1) : Nat) : Int)) (h : fM_value v1 om = some r) : VlC b n v1.toInt.toNat V gr (fp om 0 0) r := by
  have G0 := G.1
  unfold fM_value fM_value_0 at h
  rw [if_neg (by rw [h38]; decide)] at h
  unfold fM_value_13 at h
  rw [if_neg (by rw [h38]; decide), opk, opk] at h
  obtain ⟨q, hq, h⟩ := bd h
  have yq := in_sp hq
  have er := rows_i R
  have p2 : 2 ^ (b - 1) ≤ 256 := Nat.le_trans (Nat.pow_le_pow_right (by decide) (show b - 1 ≤ 8 by omega)) (by decide)
  have e1 : ((1 : Int32) <<< ((om.1 39) &&& 31) - 1).toInt = ((2 ^ (b - 1) : Nat) : Int) - 1 := by rw [i_sub' (by omega) (by omega) (by decide) (by decide), er]; rfl
  rw [e1, show (0 : Int32).toInt = 0 from rfl] at yq
  have q1 : ¬ q = 0 := fun z => Yn_0 yq z ⟨v0, by omega⟩
  rw [if_neg q1] at h
  unfold fM_value_40 fM_value_41 at h
  rw [refuse_00, Option.bind_some, if_pos (show ((0 : Int32), fp om 0 0).1 = 0 from rfl), if_neg (by decide), opk, vb_0, show (0 : Int32).toNatClampNeg = 0 from rfl] at h
  have R1 : RGq b n gr (fp om 0 0) := RGq_f R rfl rfl rfl rfl rfl rfl rfl
  refine (vl_go (OM := fp om 0 0) G S R1 v0 rfl cfFU).1 0 (xp (fp om 0 0) 75 0 0) r (fr_xp fr_rfl rfl) (by decide) (by rw [show (0 : Int32).toInt = 0 from rfl]; omega) (fun k hk => ?_) h
  rw [show k = 0 from by rw [show (0 : Int32).toInt = 0 from rfl] at hk; omega]
  show upd (om.2.1 75) 0 0 0 = _
  rw [up_s, S.1]; rfl
