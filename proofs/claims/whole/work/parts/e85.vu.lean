def D0q (v : Int) (dp : Nat → Int32) : Prop := ∀ n : Nat, (n : Int) < v → (dp n).toInt = 0
theorem D0q_0 {v : Int} {dp : Nat → Int32} (h : v ≤ 0) : D0q v dp := fun n hn => by omega
theorem D0q_s {v w : Int} {i : Nat} {a : Int32} {o r : cf_O} (h : D0q v (o.2.1 62)) (hf : Fr (fr_M [] [58, 59, 60, 61] []) (xp (xp o 57 i a) 62 i 0) r) (hw : w = v + 1) (hi : (i : Int) = v) : D0q w (r.2.1 62) := fun n hn => by
  rw [hf.2.1 62 rfl]
  show (upd (o.2.1 62) i 0 n).toInt = 0
  by_cases e : n = i
  · rw [e, up_s]; rfl
  · rw [up_o e]; exact h n (by omega)
def RbQ (cc cs cn : Nat → Int32) (n : Nat) : Prop := ∀ k : Nat, (k : Int) < (cc n).toInt → ∀ x ∈ cutL cs cn (301 * n + k), 0 ≤ x ∧ x < (n : Int)
def BqZ (z b g : Int) (cc cs cn dp be : Nat → Int32) : Prop := z = 0 → D0q b dp ∧ ∀ n : Nat, b ≤ (n : Int) → (n : Int) < b + g → RbQ cc cs cn n ∧ BsQ dp cc cs cn be n (dp n).toInt
def KbQ (r b G K : Int) (on tw cc cs cn dp be : Nat → Int32) : Prop := ¬ r = 0 → cutsN b.toNat on tw K.toNat G.toNat = some (rowsL cc cs cn (b + G).toNat) ∧ BqZ 0 b G cc cs cn dp be
theorem KbQ_i {z r b G K g : Int} {on tw cc cs cn dp be : Nat → Int32} (h : Cu z b g K on tw cc cs cn) (hq : BqZ z b g cc cs cn dp be) (hz : z = 0) (h1 : g ≤ G) (h2 : G ≤ g) : KbQ r b G K on tw cc cs cn dp be := fun _ => by
  have e : g = G := by omega
  subst e
  exact ⟨h.1 hz, fun _ => hq hz⟩
theorem BqZ_0 {z b b2 : Int} {cc cs cn dp be : Nat → Int32} (h : D0q b dp) (hb : b2 ≤ b) : BqZ z b2 0 cc cs cn dp be := fun _ => ⟨fun n hn => h n (by omega), fun n h1 h2 => by omega⟩
theorem CbM_i {o : cf_O} (k : okO I_M o) : CbM o := by
  refine ⟨fun c => k.2 59 c, fun c => ?_, fun c => ?_, fun c => k.2 57 c⟩
  · have := k.2 58 c
    have : (0 : Int) ≤ (o.2.1 58 c).toInt ∧ (o.2.1 58 c).toInt ≤ _ := this
    exact ⟨this.1, Int.le_trans this.2 (by decide)⟩
  · have := k.2 62 c
    have : (0 : Int) ≤ (o.2.1 62 c).toInt ∧ (o.2.1 62 c).toInt ≤ _ := this
    exact ⟨this.1, Int.le_trans this.2 (by decide)⟩
theorem dpC_e {d d2 : Nat → Int32} {L : List Int} (h : ∀ x : Int, x ∈ L → d2 x.toNat = d x.toNat) : dpC d L = dpC d2 L := by
  unfold dpC; rw [dpI_e h]
theorem Ahd_e {d d2 : Nat → Int32} {X Y : List Int} (hX : ∀ x : Int, x ∈ X → d2 x.toNat = d x.toNat) (hY : ∀ x : Int, x ∈ Y → d2 x.toNat = d x.toNat) : Ahd d X Y ↔ Ahd d2 X Y := by
  unfold Ahd; rw [dpC_e hX, dpC_e hY]
theorem BsQ_c {d cc cs cn be d2 cc2 cs2 cn2 be2 : Nat → Int32} {n : Nat} {m : Int} (h : BsQ d cc cs cn be n m) (hr : RbQ cc cs cn n) (ec : cc2 n = cc n) (eb : be2 n = be n) (el : ∀ k : Nat, (k : Int) < (cc n).toInt → cutL cs2 cn2 (301 * n + k) = cutL cs cn (301 * n + k)) (ed : ∀ k : Nat, k < n → d2 k = d k) : BsQ d2 cc2 cs2 cn2 be2 n m ∧ RbQ cc2 cs2 cn2 n := by
  obtain ⟨j, h1, h2, h3, h4⟩ := h
  have nd : ∀ k : Nat, (k : Int) < (cc n).toInt → ∀ x : Int, x ∈ cutL cs cn (301 * n + k) → d2 x.toNat = d x.toNat := fun k hk x hx => by
    have := hr k hk x hx
    exact ed _ (by omega)
  refine ⟨⟨j, by rw [ec]; exact h1, by rw [eb]; exact h2, by rw [el j h1, ← dpC_e (nd j h1)]; exact h3, fun k hk => ?_⟩, fun k hk => ?_⟩
  · rw [ec] at hk
    rw [el k hk, el j h1, ← Ahd_e (nd k hk) (nd j h1)]
    exact h4 k hk
  · rw [ec] at hk
    rw [el k hk]; exact hr k hk
theorem BqZ_s {z z2 b g g2 n : Int} {o q r : cf_O} {v : Int32} (h : BqZ z b g (o.2.1 57) (o.2.1 59) (o.2.1 58) (o.2.1 62) (o.2.1 63)) (hz : z = 0) (e : fM_findBest v q = some r) (f2 : Fr (fr_M [] [62, 63] []) q r) (f1 : Fr (fr_M [36] [57, 58, 59, 60, 61] []) o q) (Bo : CbM o) (Bq : CbM q) (h57 : Ce n (o.2.1 57) (q.2.1 57)) (h59 : Lc n (o.2.1 59) (q.2.1 59)) (h58 : Ce (1505 * n) (o.2.1 58) (q.2.1 58)) (hs : Sn v.toInt (q.2.1 57) (q.2.1 59) (q.2.1 58)) (hv : v.toInt = n) (hn : n = b + g) (hg : g2 = g + 1) (h0 : 0 ≤ g ∧ 0 ≤ b) (hb : n < 209) (h1 : 1 ≤ (q.2.1 57 v.toInt.toNat).toInt) : BqZ z2 b g2 (r.2.1 57) (r.2.1 59) (r.2.1 58) (r.2.1 62) (r.2.1 63) := fun _ => by
  obtain ⟨d0, hq⟩ := h hz
  obtain ⟨F1, F2⟩ := fb_sp (n := n.toNat) Bq (by omega) (by omega) (by rw [← hv]; exact h1) e
  have e62 : q.2.1 62 = o.2.1 62 := f1.2.1 62 rfl
  have e63 : q.2.1 63 = o.2.1 63 := f1.2.1 63 rfl
  refine ⟨fun m hm => ?_, fun m m1 m2 => ?_⟩
  · rw [(F2 m (by omega)).1, e62]; exact d0 m hm
  · rw [f2.2.1 57 rfl, f2.2.1 58 rfl, f2.2.1 59 rfl] at *
    by_cases em : (m : Int) = n
    · have em2 : m = n.toNat := by omega
      subst em2
      have rb : RbQ (q.2.1 57) (q.2.1 59) (q.2.1 58) n.toNat := fun k hk x hx => by
        have hs := hs (301 * n.toNat + k) (by omega) (by rw [hv]; omega)
        unfold cutL tabL at hx
        obtain ⟨i, i1, i2⟩ := List.mem_map.mp hx
        have i3 := List.mem_range.mp i1
        have bn := Bq.2.1 (5 * (301 * n.toNat + k) + i)
        have i2 : (q.2.1 58 (5 * (301 * n.toNat + k) + i)).toInt = x := i2
        have t := hs i (q.2.1 58 (5 * (301 * n.toNat + k) + i)).toInt.toNat (by omega) (by omega)
        have t : (((q.2.1 58 (5 * (301 * n.toNat + k) + i)).toInt.toNat : Nat) : Int) < v.toInt := t
        omega
      have z := BsQ_c (d2 := r.2.1 62) F1 rb rfl rfl (fun _ _ => rfl) (fun k hk => (F2 k (by omega)).1)
      exact ⟨z.2, z.1⟩
    · obtain ⟨y1, y2⟩ := hq m m1 (by omega)
      have cb := Bo.2.2.2 m
      have z := BsQ_c (d2 := r.2.1 62) (cc2 := q.2.1 57) (cs2 := q.2.1 59) (cn2 := q.2.1 58) (be2 := r.2.1 63) y2 y1 (h57 m (by omega)) (by rw [(F2 m (by omega)).2, e63]) (fun k hk => cut_c (h59 _ (by omega)) (Bo.1 _).2 (fun j j1 j2 => h58 j (by omega))) (fun k hk => by rw [(F2 k (by omega)).1, e62])
      rw [(F2 m (by omega)).1, e62]
      exact ⟨z.2, z.1⟩
def QN_cutAll (v1 : Int32) (o0 : cf_O) (r : (Int32 × cf_O)) : Prop := ((0 : Int) ≤ r.1.toInt ∧ r.1.toInt ≤ 1) ∧ (okO I_M r.2) ∧ (Fr (fr_M [36] [57, 58, 59, 60, 61, 62, 63] []) o0 r.2) ∧ (Cn (r.2.2.1 59) (r.2.2.1 58)) ∧ (Bc r.1.toInt ((r.2.1 39).toInt + 1) (r.2.1 43).toInt v1.toInt (r.2.2.1 63) (r.2.2.1 59)) ∧ (Hs r.1.toInt ((r.2.1 39).toInt + 1) (r.2.1 43).toInt v1.toInt (r.2.2.1 44) (r.2.2.1 45)) ∧ (Fz r.1.toInt ((r.2.1 39).toInt + 1) (r.2.1 43).toInt (r.2.2.1 44) (r.2.2.1 45) (r.2.2.1 57) (r.2.2.1 59) (r.2.2.1 58) (r.2.2.1 62)) ∧ (Be r.1.toInt ((r.2.1 39).toInt + 1) (r.2.1 43).toInt (r.2.2.1 57) (r.2.2.1 63)) ∧ (KbQ r.1.toInt ((r.2.1 39).toInt + 1) (r.2.1 43).toInt v1.toInt (r.2.2.1 44) (r.2.2.1 45) (r.2.2.1 57) (r.2.2.1 59) (r.2.2.1 58) (r.2.2.1 62) (r.2.2.1 63)) ∧ True
def HN_cutAll (yv1 : Int32) (yo0 : cf_O) (n : Nat) : Prop := (∀ (v1 : Int32) (v2 : Int32) (o0 : cf_O), (okO I_M o0) → (Fr (fr_M [36] [57, 58, 59, 60, 61, 62, 63] []) yo0 o0) → ((0 : Int) ≤ v1.toInt ∧ v1.toInt ≤ 5) → ((0 : Int) ≤ v2.toInt ∧ v2.toInt ≤ 9) → ((0 : Int) ≤ (o0.1 0).toInt ∧ (o0.1 0).toInt ≤ 2) → ((0 : Int) ≤ (o0.1 36).toInt ∧ (o0.1 36).toInt ≤ 0) → ((1 : Int) ≤ (o0.1 38).toInt ∧ (o0.1 38).toInt ≤ 1) → ((0 : Int) ≤ (o0.1 95).toInt ∧ (o0.1 95).toInt ≤ 0) → (Cn (o0.2.1 59) (o0.2.1 58)) → (1 ≤ v1.toInt) → (v1.toInt = yv1.toInt) → (Gx ((yo0.1 39).toInt + 1) (yo0.1 43).toInt (yo0.2.1 44) (yo0.2.1 45)) → (Cz v2.toInt ((yo0.1 39).toInt + 1) (yo0.1 43).toInt (yo0.2.1 44) (yo0.2.1 45) (o0.2.1 57) (o0.2.1 59) (o0.2.1 58)) → (Ca v2.toInt (o0.2.1 57) (o0.2.1 59) (o0.2.1 58)) → (Dn v2.toInt (o0.2.1 62)) → (Fc v2.toInt (o0.2.1 57)) → (Zz v2.toInt (o0.2.1 57) (o0.2.1 59)) → (0 ≤ v2.toInt) → (v2.toInt ≤ (yo0.1 39).toInt + 1) → ((o0.1 36).toInt = 0) → ((o0.1 39).toInt = (yo0.1 39).toInt) → ((o0.1 43).toInt = (yo0.1 43).toInt) → (2 ≤ v1.toInt) → (D0q v2.toInt (o0.2.1 62)) → 402 + (9 - v2.toInt) * 2 < (n : Int) → tt (gM_cutAll n 0 v1 v2 o0) (QN_cutAll yv1 yo0)) ∧ (∀ (v1 : Int32) (v2 : Int32) (o0 : cf_O), (okO I_M o0) → (Fr (fr_M [36] [57, 58, 59, 60, 61, 62, 63] []) yo0 o0) → ((0 : Int) ≤ v1.toInt ∧ v1.toInt ≤ 5) → ((0 : Int) ≤ v2.toInt ∧ v2.toInt ≤ 200) → ((0 : Int) ≤ (o0.1 0).toInt ∧ (o0.1 0).toInt ≤ 2) → ((1 : Int) ≤ (o0.1 38).toInt ∧ (o0.1 38).toInt ≤ 1) → ((0 : Int) ≤ (o0.1 95).toInt ∧ (o0.1 95).toInt ≤ 0) → (Cn (o0.2.1 59) (o0.2.1 58)) → (1 ≤ v1.toInt) → (v1.toInt = yv1.toInt) → (Bt (o0.1 36).toInt ((yo0.1 39).toInt + 1) v2.toInt v1.toInt (o0.2.1 63) (o0.2.1 59)) → (Gx ((yo0.1 39).toInt + 1) (yo0.1 43).toInt (yo0.2.1 44) (yo0.2.1 45)) → (Cz (((yo0.1 39).toInt + 1) + v2.toInt) ((yo0.1 39).toInt + 1) (yo0.1 43).toInt (yo0.2.1 44) (yo0.2.1 45) (o0.2.1 57) (o0.2.1 59) (o0.2.1 58)) → (Cy v2.toInt ((yo0.1 39).toInt + 1) (yo0.1 43).toInt (yo0.2.1 44) (yo0.2.1 45) (o0.2.1 57) (o0.2.1 59) (o0.2.1 58)) → (Ca (((yo0.1 39).toInt + 1) + v2.toInt) (o0.2.1 57) (o0.2.1 59) (o0.2.1 58)) → (Zz 1 (o0.2.1 57) (o0.2.1 59)) → (Dz (o0.1 36).toInt ((yo0.1 39).toInt + 1) v2.toInt (o0.2.1 57) (o0.2.1 59) (o0.2.1 58) (o0.2.1 62)) → (Cu (o0.1 36).toInt ((yo0.1 39).toInt + 1) v2.toInt v1.toInt (yo0.2.1 44) (yo0.2.1 45) (o0.2.1 57) (o0.2.1 59) (o0.2.1 58)) → (0 ≤ v2.toInt) → (v2.toInt ≤ (yo0.1 43).toInt) → (Bd (o0.1 36).toInt ((yo0.1 39).toInt + 1) v2.toInt (o0.2.1 57) (o0.2.1 63)) → ((o0.1 39).toInt = (yo0.1 39).toInt) → ((o0.1 43).toInt = (yo0.1 43).toInt) → (2 ≤ v1.toInt) → (BqZ (o0.1 36).toInt ((yo0.1 39).toInt + 1) v2.toInt (o0.2.1 57) (o0.2.1 59) (o0.2.1 58) (o0.2.1 62) (o0.2.1 63)) → 0 + (200 - v2.toInt) * 2 < (n : Int) → tt (gM_cutAll n 1 v1 v2 o0) (QN_cutAll yv1 yo0))
set_option maxHeartbeats 4000000 in
set_option maxRecDepth 100000 in
theorem tN_cutAll_42 {yv1 : Int32} {yo0 : cf_O} {n : Nat} (H : HN_cutAll yv1 yo0 n) (v1 : Int32) (v2 : Int32) (o0 : cf_O) (k_o0 : okO I_M o0) (r_o0 : Fr (fr_M [36] [57, 58, 59, 60, 61, 62, 63] []) yo0 o0) (i_v1 : (0 : Int) ≤ v1.toInt ∧ v1.toInt ≤ 5) (i_v2 : (0 : Int) ≤ v2.toInt ∧ v2.toInt ≤ 200) (f_o0_0 : (0 : Int) ≤ (o0.1 0).toInt ∧ (o0.1 0).toInt ≤ 2) (f_o0_38 : (1 : Int) ≤ (o0.1 38).toInt ∧ (o0.1 38).toInt ≤ 1) (f_o0_95 : (0 : Int) ≤ (o0.1 95).toInt ∧ (o0.1 95).toInt ≤ 0) (x_0 : Cn (o0.2.1 59) (o0.2.1 58)) (x_1 : 1 ≤ v1.toInt) (x_2 : v1.toInt = yv1.toInt) (x_3 : Bt (o0.1 36).toInt ((yo0.1 39).toInt + 1) v2.toInt v1.toInt (o0.2.1 63) (o0.2.1 59)) (x_4 : Gx ((yo0.1 39).toInt + 1) (yo0.1 43).toInt (yo0.2.1 44) (yo0.2.1 45)) (x_5 : Cz (((yo0.1 39).toInt + 1) + v2.toInt) ((yo0.1 39).toInt + 1) (yo0.1 43).toInt (yo0.2.1 44) (yo0.2.1 45) (o0.2.1 57) (o0.2.1 59) (o0.2.1 58)) (x_6 : Cy v2.toInt ((yo0.1 39).toInt + 1) (yo0.1 43).toInt (yo0.2.1 44) (yo0.2.1 45) (o0.2.1 57) (o0.2.1 59) (o0.2.1 58)) (x_7 : Ca (((yo0.1 39).toInt + 1) + v2.toInt) (o0.2.1 57) (o0.2.1 59) (o0.2.1 58)) (x_8 : Zz 1 (o0.2.1 57) (o0.2.1 59)) (x_9 : Dz (o0.1 36).toInt ((yo0.1 39).toInt + 1) v2.toInt (o0.2.1 57) (o0.2.1 59) (o0.2.1 58) (o0.2.1 62)) (x_10 : Cu (o0.1 36).toInt ((yo0.1 39).toInt + 1) v2.toInt v1.toInt (yo0.2.1 44) (yo0.2.1 45) (o0.2.1 57) (o0.2.1 59) (o0.2.1 58)) (x_11 : 0 ≤ v2.toInt) (x_12 : v2.toInt ≤ (yo0.1 43).toInt) (x_13 : Bd (o0.1 36).toInt ((yo0.1 39).toInt + 1) v2.toInt (o0.2.1 57) (o0.2.1 63)) (x_14 : (o0.1 39).toInt = (yo0.1 39).toInt) (x_15 : (o0.1 43).toInt = (yo0.1 43).toInt) (x_16 : 2 ≤ v1.toInt) (x_17 : BqZ (o0.1 36).toInt ((yo0.1 39).toInt + 1) v2.toInt (o0.2.1 57) (o0.2.1 59) (o0.2.1 58) (o0.2.1 62) (o0.2.1 63)) (hm : 0 + (200 - v2.toInt) * 2 ≤ (n : Int)) : tt (fM_cutAll_42 (gM_cutAll n) v1 v2 o0) (QN_cutAll yv1 yo0) := by
  unfold fM_cutAll_42
  have g_o0_36 : (0 : Int) ≤ (o0.1 36).toInt ∧ (o0.1 36).toInt ≤ 1 := k_o0.1 36
  have g_o0_39 : (0 : Int) ≤ (o0.1 39).toInt ∧ (o0.1 39).toInt ≤ 8 := k_o0.1 39
  have ey_o0_39 : (o0.1 39).toInt = (yo0.1 39).toInt := congrArg Int32.toInt (r_o0.1 39 rfl)
  have g_o0_43 : (0 : Int) ≤ (o0.1 43).toInt ∧ (o0.1 43).toInt ≤ 200 := k_o0.1 43
  have ey_o0_43 : (o0.1 43).toInt = (yo0.1 43).toInt := congrArg Int32.toInt (r_o0.1 43 rfl)
  refine tt_if (fun c1 => ?_) (fun c1 => ?_)
  · have wc1 : (o0.1 43).toInt ≤ v2.toInt := c_le c1
    try unfold fM_cutAll_86
    refine tt_if (fun c2 => ?_) (fun c2 => ?_)
    · have wc2 : (o0.1 36).toInt = (0 : Int) := c_eq c2
      have i3 : (0 : Int) ≤ (o0.1 36).toInt ∧ (o0.1 36).toInt ≤ 0 := nr_eql c2 (k_o0.1 36) (show (0 : Int) ≤ (0 : Int32).toInt ∧ (0 : Int32).toInt ≤ 0 by decide) (by decide) (by decide)
      try unfold fM_cutAll_98
      refine tt_w (iv_b (show (1 : Int) ≤ (1 : Int32).toInt ∧ (1 : Int32).toInt ≤ 1 by decide) (by decide) (by decide)) ?_
      have p4 : Bc 1 ((o0.1 39).toInt + 1) (o0.1 43).toInt yv1.toInt (o0.2.1 63) (o0.2.1 59) := by first | exact fun hz => absurd hz (by decide) | exact fun _ => Bs_w (Bt_e (by assumption) (by omega)) (by omega) (by omega) (by omega)
      have p5 : Hs 1 ((o0.1 39).toInt + 1) (o0.1 43).toInt yv1.toInt (o0.2.1 44) (o0.2.1 45) := by rw [r_o0.1 39 rfl, r_o0.1 43 rfl, r_o0.2.1 44 rfl, r_o0.2.1 45 rfl]; rw [← x_2]; exact Hs_i x_10 (by omega) (by omega) (by omega)
      have p6 : Fz 1 ((o0.1 39).toInt + 1) (o0.1 43).toInt (o0.2.1 44) (o0.2.1 45) (o0.2.1 57) (o0.2.1 59) (o0.2.1 58) (o0.2.1 62) := by rw [r_o0.1 39 rfl, r_o0.1 43 rfl, r_o0.2.1 44 rfl, r_o0.2.1 45 rfl]; exact Fz_i x_5 x_6 x_4 x_9 rfl (by omega)
      have p7 : Be 1 ((o0.1 39).toInt + 1) (o0.1 43).toInt (o0.2.1 57) (o0.2.1 63) := by rw [r_o0.1 39 rfl, r_o0.1 43 rfl]; exact Be_i x_13 (by omega)
      have pK : KbQ 1 ((o0.1 39).toInt + 1) (o0.1 43).toInt yv1.toInt (o0.2.1 44) (o0.2.1 45) (o0.2.1 57) (o0.2.1 59) (o0.2.1 58) (o0.2.1 62) (o0.2.1 63) := by rw [r_o0.1 39 rfl, r_o0.1 43 rfl, r_o0.2.1 44 rfl, r_o0.2.1 45 rfl, ← x_2]; exact KbQ_i x_10 x_17 (by omega) (by omega) (by omega)
      exact tt_some ⟨(iv_w (a := 0) (b := 1) (by decide) (by decide) (show (1 : Int) ≤ (1 : Int32).toInt ∧ (1 : Int32).toInt ≤ 1 by decide)), k_o0, r_o0, x_0, p4, p5, p6, p7, pK, trivial⟩
    · have wc2 : ¬ (o0.1 36).toInt = (0 : Int) := c_ne c2
      have i8 : (1 : Int) ≤ (o0.1 36).toInt ∧ (o0.1 36).toInt ≤ 1 := nr_nela c2 (k_o0.1 36) (show (0 : Int) ≤ (0 : Int32).toInt ∧ (0 : Int32).toInt ≤ 0 by decide) (by decide) (by decide)
      try unfold fM_cutAll_98
      refine tt_w (iv_b (show (0 : Int) ≤ (0 : Int32).toInt ∧ (0 : Int32).toInt ≤ 0 by decide) (by decide) (by decide)) ?_
      have p9 : Bc 0 ((o0.1 39).toInt + 1) (o0.1 43).toInt yv1.toInt (o0.2.1 63) (o0.2.1 59) := by first | exact fun hz => absurd hz (by decide) | exact fun _ => Bs_w (Bt_e (by assumption) (by omega)) (by omega) (by omega) (by omega)
      have p10 : Hs 0 ((o0.1 39).toInt + 1) (o0.1 43).toInt yv1.toInt (o0.2.1 44) (o0.2.1 45) := by rw [r_o0.1 39 rfl, r_o0.1 43 rfl, r_o0.2.1 44 rfl, r_o0.2.1 45 rfl]; rw [← x_2]; exact Hs_i x_10 (by omega) (by omega) (by omega)
      have p11 : Fz 0 ((o0.1 39).toInt + 1) (o0.1 43).toInt (o0.2.1 44) (o0.2.1 45) (o0.2.1 57) (o0.2.1 59) (o0.2.1 58) (o0.2.1 62) := by rw [r_o0.1 39 rfl, r_o0.1 43 rfl, r_o0.2.1 44 rfl, r_o0.2.1 45 rfl]; exact Fz_i x_5 x_6 x_4 x_9 rfl (by omega)
      have p12 : Be 0 ((o0.1 39).toInt + 1) (o0.1 43).toInt (o0.2.1 57) (o0.2.1 63) := by rw [r_o0.1 39 rfl, r_o0.1 43 rfl]; exact Be_i x_13 (by omega)
      have pK : KbQ 0 ((o0.1 39).toInt + 1) (o0.1 43).toInt yv1.toInt (o0.2.1 44) (o0.2.1 45) (o0.2.1 57) (o0.2.1 59) (o0.2.1 58) (o0.2.1 62) (o0.2.1 63) := fun q => absurd rfl q
      exact tt_some ⟨(iv_w (a := 0) (b := 1) (by decide) (by decide) (show (0 : Int) ≤ (0 : Int32).toInt ∧ (0 : Int32).toInt ≤ 0 by decide)), k_o0, r_o0, x_0, p9, p10, p11, p12, pK, trivial⟩
  · have wc1 : v2.toInt < (o0.1 43).toInt := c_nle c1
    have i13 : (0 : Int) ≤ v2.toInt ∧ v2.toInt ≤ 199 := nr_nlel c1 i_v2 (k_o0.1 43) (by decide) (by decide)
    have i14 : (1 : Int) ≤ (o0.1 43).toInt ∧ (o0.1 43).toInt ≤ 200 := nr_nler c1 i_v2 (k_o0.1 43) (by decide) (by decide)
    refine tt_if (fun c15 => ?_) (fun c15 => ?_)
    · have wc15 : (o0.1 36).toInt = (0 : Int) := c_eq c15
      have i16 : (0 : Int) ≤ (o0.1 36).toInt ∧ (o0.1 36).toInt ≤ 0 := nr_eql c15 (k_o0.1 36) (show (0 : Int) ≤ (0 : Int32).toInt ∧ (0 : Int32).toInt ≤ 0 by decide) (by decide) (by decide)
      have p17 : Gx ((o0.1 39).toInt + 1) (o0.1 43).toInt (o0.2.1 44) (o0.2.1 45) := by rw [r_o0.1 39 rfl, r_o0.1 43 rfl, r_o0.2.1 44 rfl, r_o0.2.1 45 rfl]; assumption
      have p18 : Cz ((o0.1 39).toInt + 1 + v2.toInt) ((o0.1 39).toInt + 1) (o0.1 43).toInt (o0.2.1 44) (o0.2.1 45) (o0.2.1 57) (o0.2.1 59) (o0.2.1 58) := by rw [r_o0.1 39 rfl, r_o0.1 43 rfl, r_o0.2.1 44 rfl, r_o0.2.1 45 rfl]; assumption
      have p19 : Ca ((o0.1 39).toInt + 1 + v2.toInt) (o0.2.1 57) (o0.2.1 59) (o0.2.1 58) := by rw [r_o0.1 39 rfl]; assumption
      refine tt_b (sM_cut _ _ _ k_o0 i13 i_v1 f_o0_0 i16 f_o0_38 i14 f_o0_95 x_0 (show 1 ≤ v1.toInt by omega) p17 p18 (show v2.toInt < (o0.1 43).toInt by omega) p19 (show (o0.1 36).toInt = 0 by omega)) (fun q20 hq20 => ?_)
      obtain ⟨k_q20, n_q20, zq20_0, zq20_1, zq20_2, zq20_3, zq20_4, zq20_5, zq20_6, zq20_7, zq20_8, zq20_9, -⟩ := hq20
      have r_q20 := fr_tr r_o0 n_q20 rfl rfl rfl
      have f_q20_0 : (0 : Int) ≤ (q20.1 0).toInt ∧ (q20.1 0).toInt ≤ 2 := by rw [n_q20.1 0 rfl]; exact f_o0_0
      have f_q20_38 : (1 : Int) ≤ (q20.1 38).toInt ∧ (q20.1 38).toInt ≤ 1 := by rw [n_q20.1 38 rfl]; exact f_o0_38
      have f_q20_43 : (1 : Int) ≤ (q20.1 43).toInt ∧ (q20.1 43).toInt ≤ 200 := by rw [n_q20.1 43 rfl]; exact i14
      have f_q20_95 : (0 : Int) ≤ (q20.1 95).toInt ∧ (q20.1 95).toInt ≤ 0 := by rw [n_q20.1 95 rfl]; exact f_o0_95
      have g_q20_36 : (0 : Int) ≤ (q20.1 36).toInt ∧ (q20.1 36).toInt ≤ 1 := k_q20.1 36
      have e_q20_39 : (q20.1 39).toInt = (o0.1 39).toInt := congrArg Int32.toInt (n_q20.1 39 rfl)
      have g_q20_39 : (0 : Int) ≤ (q20.1 39).toInt ∧ (q20.1 39).toInt ≤ 8 := k_q20.1 39
      have e_q20_43 : (q20.1 43).toInt = (o0.1 43).toInt := congrArg Int32.toInt (n_q20.1 43 rfl)
      refine tt_if (fun c21 => ?_) (fun c21 => ?_)
      · have wc21 : (q20.1 36).toInt = (0 : Int) := c_eq c21
        have i22 : (0 : Int) ≤ (q20.1 36).toInt ∧ (q20.1 36).toInt ≤ 0 := nr_eql c21 (k_q20.1 36) (show (0 : Int) ≤ (0 : Int32).toInt ∧ (0 : Int32).toInt ≤ 0 by decide) (by decide) (by decide)
        try unfold fM_base
        try unfold fM_base_0
        refine tt_bkv (P := fun z => ((1 : Int) ≤ z.toInt ∧ z.toInt ≤ 9) ∧ z.toInt = (q20.1 39).toInt + 1) ⟨iv_add (k_q20.1 39) (show (1 : Int) ≤ (1 : Int32).toInt ∧ (1 : Int32).toInt ≤ 1 by decide) (by decide) (by decide) (by decide) (by decide), iq_add (k_q20.1 39) (show (1 : Int) ≤ (1 : Int32).toInt ∧ (1 : Int32).toInt ≤ 1 by decide) (by decide) (by decide)⟩ (fun x23 qi24 => ?_)
        obtain ⟨i24, ei24⟩ := qi24
        refine tt_bs ?_
        refine tt_kv (P := fun z => ((1 : Int) ≤ z.toInt ∧ z.toInt ≤ 208) ∧ z.toInt = x23.toInt + v2.toInt) ⟨iv_add i24 i13 (by decide) (by decide) (by decide) (by decide), iq_add i24 i13 (by decide) (by decide)⟩ (fun x25 qi26 => ?_)
        obtain ⟨i26, ei26⟩ := qi26
        have p27 : Sn x25.toInt (q20.2.1 57) (q20.2.1 59) (q20.2.1 58) := by exact Sn_c (g := v2.toNatClampNeg) (show Cx _ _ _ _ _ _ _ _ _ _ by assumption) (by rw [r_o0.1 39 rfl, r_o0.1 43 rfl, r_o0.2.1 44 rfl, r_o0.2.1 45 rfl]; exact x_4) (by rw [tn_n]; omega) (by rw [tn_n]; omega) (by omega)
        have p28 : Dn x25.toInt (q20.2.1 62) := by rw [(show Fr (fr_M [36] [57, 58, 59, 60, 61] []) _ _ by assumption).2.1 62 rfl]; exact Dn_n (x_9 (by omega)).1 (by omega)
        have t29 : (0 : Int) ≤ (q20.2.1 57 x25.toNatClampNeg).toInt ∧ (q20.2.1 57 x25.toNatClampNeg).toInt ≤ 300 := k_q20.2 57 _
        refine tt_be (sM_findBest _ _ k_q20 i26 f_q20_0 i22 f_q20_38 f_q20_43 f_q20_95 p27 p28 (show 1 ≤ (q20.2.1 57 x25.toNatClampNeg).toInt by exact lp_e (show Lp _ _ _ by assumption) (by omega) (by omega) (by rw [← Int.ofNat_inj, tn_n]; omega))) (fun q30 hq30 eq30 => ?_)
        obtain ⟨k_q30, n_q30, zq30_0, zq30_1, zq30_2, zq30_3, -⟩ := hq30
        have r_q30 := fr_tr r_q20 n_q30 rfl rfl rfl
        have f_q30_0 : (0 : Int) ≤ (q30.1 0).toInt ∧ (q30.1 0).toInt ≤ 2 := by rw [n_q30.1 0 rfl]; exact f_q20_0
        have f_q30_36 : (0 : Int) ≤ (q30.1 36).toInt ∧ (q30.1 36).toInt ≤ 0 := by rw [n_q30.1 36 rfl]; exact i22
        have f_q30_38 : (1 : Int) ≤ (q30.1 38).toInt ∧ (q30.1 38).toInt ≤ 1 := by rw [n_q30.1 38 rfl]; exact f_q20_38
        have f_q30_43 : (1 : Int) ≤ (q30.1 43).toInt ∧ (q30.1 43).toInt ≤ 200 := by rw [n_q30.1 43 rfl]; exact f_q20_43
        have f_q30_95 : (0 : Int) ≤ (q30.1 95).toInt ∧ (q30.1 95).toInt ≤ 0 := by rw [n_q30.1 95 rfl]; exact f_q20_95
        have e_q30_36 : (q30.1 36).toInt = (q20.1 36).toInt := congrArg Int32.toInt (n_q30.1 36 rfl)
        have e_q30_39 : (q30.1 39).toInt = (q20.1 39).toInt := congrArg Int32.toInt (n_q30.1 39 rfl)
        have g_q30_39 : (0 : Int) ≤ (q30.1 39).toInt ∧ (q30.1 39).toInt ≤ 8 := k_q30.1 39
        have e_q30_43 : (q30.1 43).toInt = (q20.1 43).toInt := congrArg Int32.toInt (n_q30.1 43 rfl)
        have u31 : Cn (q30.2.1 59) (q30.2.1 58) := by rw [n_q30.2.1 58 rfl, n_q30.2.1 59 rfl]; exact zq20_0
        have u32 : Sz ((q30.1 39).toInt + 1 + v2.toInt) v1.toInt (q30.2.1 57) (q30.2.1 59) := by rw [n_q30.1 39 rfl, n_q30.2.1 57 rfl, n_q30.2.1 59 rfl]; exact zq20_1
        have u33 : Lc ((q30.1 39).toInt + 1 + v2.toInt) (o0.2.1 59) (q30.2.1 59) := by rw [n_q30.1 39 rfl, n_q30.2.1 59 rfl]; exact zq20_2
        have u34 : Cz ((o0.1 39).toInt + 1 + v2.toInt + 1) ((o0.1 39).toInt + 1) (o0.1 43).toInt (o0.2.1 44) (o0.2.1 45) (q30.2.1 57) (q30.2.1 59) (q30.2.1 58) := by rw [n_q30.2.1 57 rfl, n_q30.2.1 58 rfl, n_q30.2.1 59 rfl]; exact zq20_3
        have u35 : Cx ((o0.1 39).toInt + 1 + v2.toInt) ((o0.2.1 44 v2.toNatClampNeg).toInt / 2) ((o0.2.1 45 v2.toNatClampNeg).toInt / 2) ((o0.1 39).toInt + 1) (o0.1 43).toInt (o0.2.1 44) (o0.2.1 45) (q30.2.1 57) (q30.2.1 59) (q30.2.1 58) := by rw [n_q30.2.1 57 rfl, n_q30.2.1 58 rfl, n_q30.2.1 59 rfl]; exact zq20_4
        have u36 : Ce ((o0.1 39).toInt + 1 + v2.toInt) (o0.2.1 57) (q30.2.1 57) := by rw [n_q30.2.1 57 rfl]; exact zq20_5
        have u37 : Ce (1505 * ((o0.1 39).toInt + 1 + v2.toInt)) (o0.2.1 58) (q30.2.1 58) := by rw [n_q30.2.1 58 rfl]; exact zq20_6
        have u38 : Ca ((o0.1 39).toInt + 1 + v2.toInt + 1) (q30.2.1 57) (q30.2.1 59) (q30.2.1 58) := by rw [n_q30.2.1 57 rfl, n_q30.2.1 58 rfl, n_q30.2.1 59 rfl]; exact zq20_7
        have u39 : Lp v1.toInt (((q30.2.1 57) ((o0.1 39).toInt + 1 + v2.toInt).toNat).toInt) (q30.1 36).toInt := by rw [n_q30.1 36 rfl, n_q30.2.1 57 rfl]; exact zq20_8
        have u40 : Gp2 (q30.1 36).toInt (rowL (q30.2.1 57) (q30.2.1 59) (q30.2.1 58) ((o0.1 39).toInt + 1 + v2.toInt).toNat) (allL (o0.2.1 57) (o0.2.1 59) (o0.2.1 58) ((o0.2.1 44 v2.toNatClampNeg).toInt / 2).toNat) (allL (o0.2.1 57) (o0.2.1 59) (o0.2.1 58) ((o0.2.1 45 v2.toNatClampNeg).toInt / 2).toNat) v1.toInt.toNat := by rw [n_q30.1 36 rfl, n_q30.2.1 57 rfl, n_q30.2.1 58 rfl, n_q30.2.1 59 rfl]; exact zq20_9
        try unfold fM_cutAll_80
        refine tt_kv (P := fun z => ((1 : Int) ≤ z.toInt ∧ z.toInt ≤ 200) ∧ z.toInt = v2.toInt + 1) ⟨iv_add i13 (show (1 : Int) ≤ (1 : Int32).toInt ∧ (1 : Int32).toInt ≤ 1 by decide) (by decide) (by decide) (by decide) (by decide), iq_add i13 (show (1 : Int) ≤ (1 : Int32).toInt ∧ (1 : Int32).toInt ≤ 1 by decide) (by decide) (by decide)⟩ (fun x41 qi42 => ?_)
        obtain ⟨i42, ei42⟩ := qi42
        have p43 : Bt (q30.1 36).toInt ((yo0.1 39).toInt + 1) x41.toInt v1.toInt (q30.2.1 63) (q30.2.1 59) := by first | assumption | exact fun hz => absurd hz (by omega) | exact fun _ => Bs_s (Bt_e (by assumption) (by omega)) (by assumption) (by assumption) (by assumption) ((show Fr (fr_M [36] [57, 58, 59, 60, 61] []) _ _ by assumption).2.1 63 rfl) (by omega) (by omega) (by omega) (by omega) (by omega) (by assumption)
        have p44 : Cz (((yo0.1 39).toInt + 1) + x41.toInt) ((yo0.1 39).toInt + 1) (yo0.1 43).toInt (yo0.2.1 44) (yo0.2.1 45) (q30.2.1 57) (q30.2.1 59) (q30.2.1 58) := by first | (rw [← r_o0.1 39 rfl, ← r_o0.1 43 rfl, ← r_o0.2.1 44 rfl, ← r_o0.2.1 45 rfl]; exact Cz_n (by assumption) (by omega)) | (rw [← r_o0.1 39 rfl, ← r_o0.1 43 rfl, ← r_o0.2.1 44 rfl, ← r_o0.2.1 45 rfl]; rw [(show Fr (fr_M [] [62, 63] []) _ _ by assumption).2.1 57 rfl, (show Fr (fr_M [] [62, 63] []) _ _ by assumption).2.1 59 rfl, (show Fr (fr_M [] [62, 63] []) _ _ by assumption).2.1 58 rfl]; exact Cz_n (by assumption) (by omega))
        have p45 : Cy x41.toInt ((yo0.1 39).toInt + 1) (yo0.1 43).toInt (yo0.2.1 44) (yo0.2.1 45) (q30.2.1 57) (q30.2.1 59) (q30.2.1 58) := by first | (rw [← r_o0.1 39 rfl, ← r_o0.1 43 rfl, ← r_o0.2.1 44 rfl, ← r_o0.2.1 45 rfl]; exact Cy_s (g := v2.toNatClampNeg) (by rw [r_o0.1 39 rfl, r_o0.1 43 rfl, r_o0.2.1 44 rfl, r_o0.2.1 45 rfl]; assumption) (show Cx _ _ _ _ _ _ _ _ _ _ by assumption) (by omega) (by rw [tn_n]; omega) (by omega) rfl rfl (show Ce ((o0.1 39).toInt + 1 + v2.toInt) _ _ by assumption) (lc_o (show Lc _ (o0.2.1 59) _ by assumption) (by omega)) (show Ce (1505 * ((o0.1 39).toInt + 1 + v2.toInt)) _ _ by assumption) (fun c => (k_o0.2 59 c).2) (fun c => (k_o0.2 57 c).2) (by omega)) | (rw [← r_o0.1 39 rfl, ← r_o0.1 43 rfl, ← r_o0.2.1 44 rfl, ← r_o0.2.1 45 rfl]; rw [(show Fr (fr_M [] [62, 63] []) _ _ by assumption).2.1 57 rfl, (show Fr (fr_M [] [62, 63] []) _ _ by assumption).2.1 59 rfl, (show Fr (fr_M [] [62, 63] []) _ _ by assumption).2.1 58 rfl]; exact Cy_s (g := v2.toNatClampNeg) (by rw [r_o0.1 39 rfl, r_o0.1 43 rfl, r_o0.2.1 44 rfl, r_o0.2.1 45 rfl]; assumption) (show Cx _ _ _ _ _ _ _ _ _ _ by assumption) (by omega) (by rw [tn_n]; omega) (by omega) rfl rfl (show Ce ((o0.1 39).toInt + 1 + v2.toInt) _ _ by assumption) (lc_o (show Lc _ (o0.2.1 59) _ by assumption) (by omega)) (show Ce (1505 * ((o0.1 39).toInt + 1 + v2.toInt)) _ _ by assumption) (fun c => (k_o0.2 59 c).2) (fun c => (k_o0.2 57 c).2) (by omega))
        have p46 : Ca (((yo0.1 39).toInt + 1) + x41.toInt) (q30.2.1 57) (q30.2.1 59) (q30.2.1 58) := by first | (rw [← r_o0.1 39 rfl]; exact Ca_n (by assumption) (by omega)) | (rw [← r_o0.1 39 rfl]; rw [(show Fr (fr_M [] [62, 63] []) _ _ by assumption).2.1 57 rfl, (show Fr (fr_M [] [62, 63] []) _ _ by assumption).2.1 59 rfl, (show Fr (fr_M [] [62, 63] []) _ _ by assumption).2.1 58 rfl]; exact Ca_n (by assumption) (by omega))
        have p47 : Zz 1 (q30.2.1 57) (q30.2.1 59) := by first | exact Zz_e x_8 (show Ce ((o0.1 39).toInt + 1 + v2.toInt) _ _ by assumption) (lc_o (show Lc _ (o0.2.1 59) _ by assumption) (by omega)) (by omega) | (rw [(show Fr (fr_M [] [62, 63] []) _ _ by assumption).2.1 57 rfl, (show Fr (fr_M [] [62, 63] []) _ _ by assumption).2.1 59 rfl]; exact Zz_e x_8 (show Ce ((o0.1 39).toInt + 1 + v2.toInt) _ _ by assumption) (lc_o (show Lc _ (o0.2.1 59) _ by assumption) (by omega)) (by omega))
        have p48 : Dz (q30.1 36).toInt ((yo0.1 39).toInt + 1) x41.toInt (q30.2.1 57) (q30.2.1 59) (q30.2.1 58) (q30.2.1 62) := by first | exact Dz_n (by omega) | (rw [← r_o0.1 39 rfl]; rw [(show Fr (fr_M [] [62, 63] []) _ _ by assumption).2.1 57 rfl, (show Fr (fr_M [] [62, 63] []) _ _ by assumption).2.1 59 rfl, (show Fr (fr_M [] [62, 63] []) _ _ by assumption).2.1 58 rfl]; exact Dz_s (z0 := (o0.1 36).toInt) (by rw [r_o0.1 39 rfl]; exact x_9) (by omega) (show Ce ((o0.1 39).toInt + 1 + v2.toInt) _ _ by assumption) (lc_o (show Lc _ (o0.2.1 59) _ by assumption) (by omega)) (show Ce (1505 * ((o0.1 39).toInt + 1 + v2.toInt)) _ _ by assumption) (fdd_o (show Fdd _ _ _ _ _ _ by assumption) (by omega) ((show Fr (fr_M [36] [57, 58, 59, 60, 61] []) _ _ by assumption).2.1 62 rfl).symm) (by omega) (by omega) (fun c => (k_o0.2 59 c).2) (fun c => (k_o0.2 57 c).2) (by omega) (by omega))
        have p49 : Cu (q30.1 36).toInt ((yo0.1 39).toInt + 1) x41.toInt v1.toInt (yo0.2.1 44) (yo0.2.1 45) (q30.2.1 57) (q30.2.1 59) (q30.2.1 58) := by first | (rw [← r_o0.1 39 rfl, ← r_o0.2.1 44 rfl, ← r_o0.2.1 45 rfl]; exact Cu_s (gg := v2.toNatClampNeg) (z := (o0.1 36).toInt) (by rw [r_o0.1 39 rfl, r_o0.2.1 44 rfl, r_o0.2.1 45 rfl]; exact x_10) (by omega) (by rw [r_o0.1 39 rfl]; exact x_7) (Zz_1 x_8 (by decide)) (fun c => (k_o0.2 57 c).1) (show Ce ((o0.1 39).toInt + 1 + v2.toInt) _ _ by assumption) (lc_o (show Lc _ (o0.2.1 59) _ by assumption) (by omega)) (show Ce (1505 * ((o0.1 39).toInt + 1 + v2.toInt)) _ _ by assumption) (fun c => (k_o0.2 59 c).2) (fun c => (k_o0.2 57 c).2) (by rw [tn_n]; omega) (by omega) (by omega) (Gx_le (n := (yo0.1 43).toInt) (by rw [r_o0.1 39 rfl, r_o0.2.1 44 rfl, r_o0.2.1 45 rfl]; exact x_4) (by omega)) (by omega) (show Gp2 _ _ _ _ _ by assumption)) | (rw [← r_o0.1 39 rfl, ← r_o0.2.1 44 rfl, ← r_o0.2.1 45 rfl]; rw [(show Fr (fr_M [] [62, 63] []) _ _ by assumption).2.1 57 rfl, (show Fr (fr_M [] [62, 63] []) _ _ by assumption).2.1 59 rfl, (show Fr (fr_M [] [62, 63] []) _ _ by assumption).2.1 58 rfl]; rw [(show Fr (fr_M [] [62, 63] []) _ _ by assumption).1 36 rfl]; exact Cu_s (gg := v2.toNatClampNeg) (z := (o0.1 36).toInt) (by rw [r_o0.1 39 rfl, r_o0.2.1 44 rfl, r_o0.2.1 45 rfl]; exact x_10) (by omega) (by rw [r_o0.1 39 rfl]; exact x_7) (Zz_1 x_8 (by decide)) (fun c => (k_o0.2 57 c).1) (show Ce ((o0.1 39).toInt + 1 + v2.toInt) _ _ by assumption) (lc_o (show Lc _ (o0.2.1 59) _ by assumption) (by omega)) (show Ce (1505 * ((o0.1 39).toInt + 1 + v2.toInt)) _ _ by assumption) (fun c => (k_o0.2 59 c).2) (fun c => (k_o0.2 57 c).2) (by rw [tn_n]; omega) (by omega) (by omega) (Gx_le (n := (yo0.1 43).toInt) (by rw [r_o0.1 39 rfl, r_o0.2.1 44 rfl, r_o0.2.1 45 rfl]; exact x_4) (by omega)) (by omega) (show Gp2 _ _ _ _ _ by assumption))
        have p50 : Bd (q30.1 36).toInt ((yo0.1 39).toInt + 1) x41.toInt (q30.2.1 57) (q30.2.1 63) := by first | exact Bd_n (by omega) | (rw [← r_o0.1 39 rfl]; rw [(show Fr (fr_M [] [62, 63] []) _ _ by assumption).2.1 57 rfl]; exact Bd_s (z0 := (o0.1 36).toInt) (by rw [r_o0.1 39 rfl]; exact x_13) (by omega) (show Ce ((o0.1 39).toInt + 1 + v2.toInt) _ _ by assumption) (show Ub _ _ _ by assumption) ((show Fr (fr_M [36] [57, 58, 59, 60, 61] []) _ _ by assumption).2.1 63 rfl) (show Fs _ _ _ by assumption) (by omega) (by omega) (by omega) (by omega) (by omega))
        have pB : BqZ (q30.1 36).toInt ((yo0.1 39).toInt + 1) x41.toInt (q30.2.1 57) (q30.2.1 59) (q30.2.1 58) (q30.2.1 62) (q30.2.1 63) := by rw [← r_o0.1 39 rfl]; exact BqZ_s (o := o0) (q := q20) (r := q30) (v := x25) (z := (o0.1 36).toInt) (by rw [r_o0.1 39 rfl]; exact x_17) (by omega) eq30 (show Fr (fr_M [] [62, 63] []) _ _ by assumption) (show Fr (fr_M [36] [57, 58, 59, 60, 61] []) _ _ by assumption) (CbM_i k_o0) (CbM_i k_q20) zq20_5 (lc_o zq20_2 (by omega)) zq20_6 p27 (by omega) (by omega) (by omega) (by omega) (by omega) (by exact lp_e (show Lp _ _ _ by assumption) (by omega) (by omega) (by rw [← Int.ofNat_inj]; omega))
        exact H.2 _ _ _ k_q30 r_q30 i_v1 (iv_w (a := 0) (b := 200) (by decide) (by decide) i42) f_q30_0 f_q30_38 f_q30_95 u31 (show 1 ≤ v1.toInt by omega) (show v1.toInt = yv1.toInt by omega) p43 x_4 p44 p45 p46 p47 p48 p49 (show 0 ≤ x41.toInt by omega) (show x41.toInt ≤ (yo0.1 43).toInt by omega) p50 (show (q30.1 39).toInt = (yo0.1 39).toInt by omega) (show (q30.1 43).toInt = (yo0.1 43).toInt by omega) (show 2 ≤ v1.toInt by omega) pB (show 0 + (200 - x41.toInt) * 2 < (n : Int) by omega)
      · have wc21 : ¬ (q20.1 36).toInt = (0 : Int) := c_ne c21
        have i51 : (1 : Int) ≤ (q20.1 36).toInt ∧ (q20.1 36).toInt ≤ 1 := nr_nela c21 (k_q20.1 36) (show (0 : Int) ≤ (0 : Int32).toInt ∧ (0 : Int32).toInt ≤ 0 by decide) (by decide) (by decide)
        try unfold fM_cutAll_80
        refine tt_kv (P := fun z => ((1 : Int) ≤ z.toInt ∧ z.toInt ≤ 200) ∧ z.toInt = v2.toInt + 1) ⟨iv_add i13 (show (1 : Int) ≤ (1 : Int32).toInt ∧ (1 : Int32).toInt ≤ 1 by decide) (by decide) (by decide) (by decide) (by decide), iq_add i13 (show (1 : Int) ≤ (1 : Int32).toInt ∧ (1 : Int32).toInt ≤ 1 by decide) (by decide) (by decide)⟩ (fun x52 qi53 => ?_)
        obtain ⟨i53, ei53⟩ := qi53
        have p54 : Bt (q20.1 36).toInt ((yo0.1 39).toInt + 1) x52.toInt v1.toInt (q20.2.1 63) (q20.2.1 59) := by first | assumption | exact fun hz => absurd hz (by omega) | exact fun _ => Bs_s (Bt_e (by assumption) (by omega)) (by assumption) (by assumption) (by assumption) ((show Fr (fr_M [36] [57, 58, 59, 60, 61] []) _ _ by assumption).2.1 63 rfl) (by omega) (by omega) (by omega) (by omega) (by omega) (by assumption)
        have p55 : Cz (((yo0.1 39).toInt + 1) + x52.toInt) ((yo0.1 39).toInt + 1) (yo0.1 43).toInt (yo0.2.1 44) (yo0.2.1 45) (q20.2.1 57) (q20.2.1 59) (q20.2.1 58) := by first | (rw [← r_o0.1 39 rfl, ← r_o0.1 43 rfl, ← r_o0.2.1 44 rfl, ← r_o0.2.1 45 rfl]; exact Cz_n (by assumption) (by omega)) | (rw [← r_o0.1 39 rfl, ← r_o0.1 43 rfl, ← r_o0.2.1 44 rfl, ← r_o0.2.1 45 rfl]; rw [(show Fr (fr_M [] [62, 63] []) _ _ by assumption).2.1 57 rfl, (show Fr (fr_M [] [62, 63] []) _ _ by assumption).2.1 59 rfl, (show Fr (fr_M [] [62, 63] []) _ _ by assumption).2.1 58 rfl]; exact Cz_n (by assumption) (by omega))
        have p56 : Cy x52.toInt ((yo0.1 39).toInt + 1) (yo0.1 43).toInt (yo0.2.1 44) (yo0.2.1 45) (q20.2.1 57) (q20.2.1 59) (q20.2.1 58) := by first | (rw [← r_o0.1 39 rfl, ← r_o0.1 43 rfl, ← r_o0.2.1 44 rfl, ← r_o0.2.1 45 rfl]; exact Cy_s (g := v2.toNatClampNeg) (by rw [r_o0.1 39 rfl, r_o0.1 43 rfl, r_o0.2.1 44 rfl, r_o0.2.1 45 rfl]; assumption) (show Cx _ _ _ _ _ _ _ _ _ _ by assumption) (by omega) (by rw [tn_n]; omega) (by omega) rfl rfl (show Ce ((o0.1 39).toInt + 1 + v2.toInt) _ _ by assumption) (lc_o (show Lc _ (o0.2.1 59) _ by assumption) (by omega)) (show Ce (1505 * ((o0.1 39).toInt + 1 + v2.toInt)) _ _ by assumption) (fun c => (k_o0.2 59 c).2) (fun c => (k_o0.2 57 c).2) (by omega)) | (rw [← r_o0.1 39 rfl, ← r_o0.1 43 rfl, ← r_o0.2.1 44 rfl, ← r_o0.2.1 45 rfl]; rw [(show Fr (fr_M [] [62, 63] []) _ _ by assumption).2.1 57 rfl, (show Fr (fr_M [] [62, 63] []) _ _ by assumption).2.1 59 rfl, (show Fr (fr_M [] [62, 63] []) _ _ by assumption).2.1 58 rfl]; exact Cy_s (g := v2.toNatClampNeg) (by rw [r_o0.1 39 rfl, r_o0.1 43 rfl, r_o0.2.1 44 rfl, r_o0.2.1 45 rfl]; assumption) (show Cx _ _ _ _ _ _ _ _ _ _ by assumption) (by omega) (by rw [tn_n]; omega) (by omega) rfl rfl (show Ce ((o0.1 39).toInt + 1 + v2.toInt) _ _ by assumption) (lc_o (show Lc _ (o0.2.1 59) _ by assumption) (by omega)) (show Ce (1505 * ((o0.1 39).toInt + 1 + v2.toInt)) _ _ by assumption) (fun c => (k_o0.2 59 c).2) (fun c => (k_o0.2 57 c).2) (by omega))
        have p57 : Ca (((yo0.1 39).toInt + 1) + x52.toInt) (q20.2.1 57) (q20.2.1 59) (q20.2.1 58) := by first | (rw [← r_o0.1 39 rfl]; exact Ca_n (by assumption) (by omega)) | (rw [← r_o0.1 39 rfl]; rw [(show Fr (fr_M [] [62, 63] []) _ _ by assumption).2.1 57 rfl, (show Fr (fr_M [] [62, 63] []) _ _ by assumption).2.1 59 rfl, (show Fr (fr_M [] [62, 63] []) _ _ by assumption).2.1 58 rfl]; exact Ca_n (by assumption) (by omega))
        have p58 : Zz 1 (q20.2.1 57) (q20.2.1 59) := by first | exact Zz_e x_8 (show Ce ((o0.1 39).toInt + 1 + v2.toInt) _ _ by assumption) (lc_o (show Lc _ (o0.2.1 59) _ by assumption) (by omega)) (by omega) | (rw [(show Fr (fr_M [] [62, 63] []) _ _ by assumption).2.1 57 rfl, (show Fr (fr_M [] [62, 63] []) _ _ by assumption).2.1 59 rfl]; exact Zz_e x_8 (show Ce ((o0.1 39).toInt + 1 + v2.toInt) _ _ by assumption) (lc_o (show Lc _ (o0.2.1 59) _ by assumption) (by omega)) (by omega))
        have p59 : Dz (q20.1 36).toInt ((yo0.1 39).toInt + 1) x52.toInt (q20.2.1 57) (q20.2.1 59) (q20.2.1 58) (q20.2.1 62) := by first | exact Dz_n (by omega) | (rw [← r_o0.1 39 rfl]; rw [(show Fr (fr_M [] [62, 63] []) _ _ by assumption).2.1 57 rfl, (show Fr (fr_M [] [62, 63] []) _ _ by assumption).2.1 59 rfl, (show Fr (fr_M [] [62, 63] []) _ _ by assumption).2.1 58 rfl]; exact Dz_s (z0 := (o0.1 36).toInt) (by rw [r_o0.1 39 rfl]; exact x_9) (by omega) (show Ce ((o0.1 39).toInt + 1 + v2.toInt) _ _ by assumption) (lc_o (show Lc _ (o0.2.1 59) _ by assumption) (by omega)) (show Ce (1505 * ((o0.1 39).toInt + 1 + v2.toInt)) _ _ by assumption) (fdd_o (show Fdd _ _ _ _ _ _ by assumption) (by omega) ((show Fr (fr_M [36] [57, 58, 59, 60, 61] []) _ _ by assumption).2.1 62 rfl).symm) (by omega) (by omega) (fun c => (k_o0.2 59 c).2) (fun c => (k_o0.2 57 c).2) (by omega) (by omega))
        have p60 : Cu (q20.1 36).toInt ((yo0.1 39).toInt + 1) x52.toInt v1.toInt (yo0.2.1 44) (yo0.2.1 45) (q20.2.1 57) (q20.2.1 59) (q20.2.1 58) := by first | (rw [← r_o0.1 39 rfl, ← r_o0.2.1 44 rfl, ← r_o0.2.1 45 rfl]; exact Cu_s (gg := v2.toNatClampNeg) (z := (o0.1 36).toInt) (by rw [r_o0.1 39 rfl, r_o0.2.1 44 rfl, r_o0.2.1 45 rfl]; exact x_10) (by omega) (by rw [r_o0.1 39 rfl]; exact x_7) (Zz_1 x_8 (by decide)) (fun c => (k_o0.2 57 c).1) (show Ce ((o0.1 39).toInt + 1 + v2.toInt) _ _ by assumption) (lc_o (show Lc _ (o0.2.1 59) _ by assumption) (by omega)) (show Ce (1505 * ((o0.1 39).toInt + 1 + v2.toInt)) _ _ by assumption) (fun c => (k_o0.2 59 c).2) (fun c => (k_o0.2 57 c).2) (by rw [tn_n]; omega) (by omega) (by omega) (Gx_le (n := (yo0.1 43).toInt) (by rw [r_o0.1 39 rfl, r_o0.2.1 44 rfl, r_o0.2.1 45 rfl]; exact x_4) (by omega)) (by omega) (show Gp2 _ _ _ _ _ by assumption)) | (rw [← r_o0.1 39 rfl, ← r_o0.2.1 44 rfl, ← r_o0.2.1 45 rfl]; rw [(show Fr (fr_M [] [62, 63] []) _ _ by assumption).2.1 57 rfl, (show Fr (fr_M [] [62, 63] []) _ _ by assumption).2.1 59 rfl, (show Fr (fr_M [] [62, 63] []) _ _ by assumption).2.1 58 rfl]; rw [(show Fr (fr_M [] [62, 63] []) _ _ by assumption).1 36 rfl]; exact Cu_s (gg := v2.toNatClampNeg) (z := (o0.1 36).toInt) (by rw [r_o0.1 39 rfl, r_o0.2.1 44 rfl, r_o0.2.1 45 rfl]; exact x_10) (by omega) (by rw [r_o0.1 39 rfl]; exact x_7) (Zz_1 x_8 (by decide)) (fun c => (k_o0.2 57 c).1) (show Ce ((o0.1 39).toInt + 1 + v2.toInt) _ _ by assumption) (lc_o (show Lc _ (o0.2.1 59) _ by assumption) (by omega)) (show Ce (1505 * ((o0.1 39).toInt + 1 + v2.toInt)) _ _ by assumption) (fun c => (k_o0.2 59 c).2) (fun c => (k_o0.2 57 c).2) (by rw [tn_n]; omega) (by omega) (by omega) (Gx_le (n := (yo0.1 43).toInt) (by rw [r_o0.1 39 rfl, r_o0.2.1 44 rfl, r_o0.2.1 45 rfl]; exact x_4) (by omega)) (by omega) (show Gp2 _ _ _ _ _ by assumption))
        have p61 : Bd (q20.1 36).toInt ((yo0.1 39).toInt + 1) x52.toInt (q20.2.1 57) (q20.2.1 63) := by first | exact Bd_n (by omega) | (rw [← r_o0.1 39 rfl]; rw [(show Fr (fr_M [] [62, 63] []) _ _ by assumption).2.1 57 rfl]; exact Bd_s (z0 := (o0.1 36).toInt) (by rw [r_o0.1 39 rfl]; exact x_13) (by omega) (show Ce ((o0.1 39).toInt + 1 + v2.toInt) _ _ by assumption) (show Ub _ _ _ by assumption) ((show Fr (fr_M [36] [57, 58, 59, 60, 61] []) _ _ by assumption).2.1 63 rfl) (show Fs _ _ _ by assumption) (by omega) (by omega) (by omega) (by omega) (by omega))
        exact H.2 _ _ _ k_q20 r_q20 i_v1 (iv_w (a := 0) (b := 200) (by decide) (by decide) i53) f_q20_0 f_q20_38 f_q20_95 zq20_0 (show 1 ≤ v1.toInt by omega) (show v1.toInt = yv1.toInt by omega) p54 x_4 p55 p56 p57 p58 p59 p60 (show 0 ≤ x52.toInt by omega) (show x52.toInt ≤ (yo0.1 43).toInt by omega) p61 (show (q20.1 39).toInt = (yo0.1 39).toInt by omega) (show (q20.1 43).toInt = (yo0.1 43).toInt by omega) (show 2 ≤ v1.toInt by omega) (fun q => absurd q (by omega)) (show 0 + (200 - x52.toInt) * 2 < (n : Int) by omega)
    · have wc15 : ¬ (o0.1 36).toInt = (0 : Int) := c_ne c15
      have i62 : (1 : Int) ≤ (o0.1 36).toInt ∧ (o0.1 36).toInt ≤ 1 := nr_nela c15 (k_o0.1 36) (show (0 : Int) ≤ (0 : Int32).toInt ∧ (0 : Int32).toInt ≤ 0 by decide) (by decide) (by decide)
      try unfold fM_cutAll_86
      refine tt_if (fun c63 => ?_) (fun c63 => ?_)
      · have wc63 : (o0.1 36).toInt = (0 : Int) := c_eq c63
        exact (dd_eq c63 i62 (show (0 : Int) ≤ (0 : Int32).toInt ∧ (0 : Int32).toInt ≤ 0 by decide) (by decide)).elim
      · have wc63 : ¬ (o0.1 36).toInt = (0 : Int) := c_ne c63
        try unfold fM_cutAll_98
        refine tt_w (iv_b (show (0 : Int) ≤ (0 : Int32).toInt ∧ (0 : Int32).toInt ≤ 0 by decide) (by decide) (by decide)) ?_
        have p64 : Bc 0 ((o0.1 39).toInt + 1) (o0.1 43).toInt yv1.toInt (o0.2.1 63) (o0.2.1 59) := by first | exact fun hz => absurd hz (by decide) | exact fun _ => Bs_w (Bt_e (by assumption) (by omega)) (by omega) (by omega) (by omega)
        have p65 : Hs 0 ((o0.1 39).toInt + 1) (o0.1 43).toInt yv1.toInt (o0.2.1 44) (o0.2.1 45) := by rw [r_o0.1 39 rfl, r_o0.1 43 rfl, r_o0.2.1 44 rfl, r_o0.2.1 45 rfl]; rw [← x_2]; exact Hs_i x_10 (by omega) (by omega) (by omega)
        have p66 : Fz 0 ((o0.1 39).toInt + 1) (o0.1 43).toInt (o0.2.1 44) (o0.2.1 45) (o0.2.1 57) (o0.2.1 59) (o0.2.1 58) (o0.2.1 62) := by rw [r_o0.1 39 rfl, r_o0.1 43 rfl, r_o0.2.1 44 rfl, r_o0.2.1 45 rfl]; exact Fz_i x_5 x_6 x_4 x_9 rfl (by omega)
        have p67 : Be 0 ((o0.1 39).toInt + 1) (o0.1 43).toInt (o0.2.1 57) (o0.2.1 63) := by rw [r_o0.1 39 rfl, r_o0.1 43 rfl]; exact Be_i x_13 (by omega)
        have pK : KbQ 0 ((o0.1 39).toInt + 1) (o0.1 43).toInt yv1.toInt (o0.2.1 44) (o0.2.1 45) (o0.2.1 57) (o0.2.1 59) (o0.2.1 58) (o0.2.1 62) (o0.2.1 63) := fun q => absurd rfl q
        exact tt_some ⟨(iv_w (a := 0) (b := 1) (by decide) (by decide) (show (0 : Int) ≤ (0 : Int32).toInt ∧ (0 : Int32).toInt ≤ 0 by decide)), k_o0, r_o0, x_0, p64, p65, p66, p67, pK, trivial⟩
set_option maxHeartbeats 4000000 in
set_option maxRecDepth 100000 in
theorem tN_cutAll_7 {yv1 : Int32} {yo0 : cf_O} {n : Nat} (H : HN_cutAll yv1 yo0 n) (v1 : Int32) (v2 : Int32) (o0 : cf_O) (k_o0 : okO I_M o0) (r_o0 : Fr (fr_M [36] [57, 58, 59, 60, 61, 62, 63] []) yo0 o0) (i_v1 : (0 : Int) ≤ v1.toInt ∧ v1.toInt ≤ 5) (i_v2 : (0 : Int) ≤ v2.toInt ∧ v2.toInt ≤ 9) (f_o0_0 : (0 : Int) ≤ (o0.1 0).toInt ∧ (o0.1 0).toInt ≤ 2) (f_o0_36 : (0 : Int) ≤ (o0.1 36).toInt ∧ (o0.1 36).toInt ≤ 0) (f_o0_38 : (1 : Int) ≤ (o0.1 38).toInt ∧ (o0.1 38).toInt ≤ 1) (f_o0_95 : (0 : Int) ≤ (o0.1 95).toInt ∧ (o0.1 95).toInt ≤ 0) (x_0 : Cn (o0.2.1 59) (o0.2.1 58)) (x_1 : 1 ≤ v1.toInt) (x_2 : v1.toInt = yv1.toInt) (x_3 : Gx ((yo0.1 39).toInt + 1) (yo0.1 43).toInt (yo0.2.1 44) (yo0.2.1 45)) (x_4 : Cz v2.toInt ((yo0.1 39).toInt + 1) (yo0.1 43).toInt (yo0.2.1 44) (yo0.2.1 45) (o0.2.1 57) (o0.2.1 59) (o0.2.1 58)) (x_5 : Ca v2.toInt (o0.2.1 57) (o0.2.1 59) (o0.2.1 58)) (x_6 : Dn v2.toInt (o0.2.1 62)) (x_7 : Fc v2.toInt (o0.2.1 57)) (x_8 : Zz v2.toInt (o0.2.1 57) (o0.2.1 59)) (x_9 : 0 ≤ v2.toInt) (x_10 : v2.toInt ≤ (yo0.1 39).toInt + 1) (x_11 : (o0.1 36).toInt = 0) (x_12 : (o0.1 39).toInt = (yo0.1 39).toInt) (x_13 : (o0.1 43).toInt = (yo0.1 43).toInt) (x_14 : 2 ≤ v1.toInt) (x_15 : D0q v2.toInt (o0.2.1 62)) (hm : 402 + (9 - v2.toInt) * 2 ≤ (n : Int)) : tt (fM_cutAll_7 (gM_cutAll n) v1 v2 o0) (QN_cutAll yv1 yo0) := by
  unfold fM_cutAll_7
  have g_o0_39 : (0 : Int) ≤ (o0.1 39).toInt ∧ (o0.1 39).toInt ≤ 8 := k_o0.1 39
  have ey_o0_39 : (o0.1 39).toInt = (yo0.1 39).toInt := congrArg Int32.toInt (r_o0.1 39 rfl)
  have g_o0_43 : (0 : Int) ≤ (o0.1 43).toInt ∧ (o0.1 43).toInt ≤ 200 := k_o0.1 43
  have ey_o0_43 : (o0.1 43).toInt = (yo0.1 43).toInt := congrArg Int32.toInt (r_o0.1 43 rfl)
  try unfold fM_base
  try unfold fM_base_0
  refine tt_bkv (P := fun z => ((1 : Int) ≤ z.toInt ∧ z.toInt ≤ 9) ∧ z.toInt = (o0.1 39).toInt + 1) ⟨iv_add (k_o0.1 39) (show (1 : Int) ≤ (1 : Int32).toInt ∧ (1 : Int32).toInt ≤ 1 by decide) (by decide) (by decide) (by decide) (by decide), iq_add (k_o0.1 39) (show (1 : Int) ≤ (1 : Int32).toInt ∧ (1 : Int32).toInt ≤ 1 by decide) (by decide) (by decide)⟩ (fun x1 qi2 => ?_)
  obtain ⟨i2, ei2⟩ := qi2
  refine tt_bs ?_
  refine tt_if (fun c3 => ?_) (fun c3 => ?_)
  · have wc3 : x1.toInt ≤ v2.toInt := c_le c3
    have i4 : (1 : Int) ≤ v2.toInt ∧ v2.toInt ≤ 9 := nr_ler c3 i2 i_v2 (by decide) (by decide)
    have p5 : Bt (o0.1 36).toInt ((yo0.1 39).toInt + 1) 0 v1.toInt (o0.2.1 63) (o0.2.1 59) := by exact fun _ => Bs_0 _ _ _ _
    have p6 : Cz (((yo0.1 39).toInt + 1) + 0) ((yo0.1 39).toInt + 1) (yo0.1 43).toInt (yo0.2.1 44) (yo0.2.1 45) (o0.2.1 57) (o0.2.1 59) (o0.2.1 58) := by exact Cz_n x_4 (by omega)
    have p7 : Cy 0 ((yo0.1 39).toInt + 1) (yo0.1 43).toInt (yo0.2.1 44) (yo0.2.1 45) (o0.2.1 57) (o0.2.1 59) (o0.2.1 58) := by exact Cy_0 (by decide)
    have p8 : Ca (((yo0.1 39).toInt + 1) + 0) (o0.2.1 57) (o0.2.1 59) (o0.2.1 58) := by exact Ca_n x_5 (by omega)
    have p9 : Zz 1 (o0.2.1 57) (o0.2.1 59) := by exact Zz_w x_8 (by omega)
    have p10 : Dz (o0.1 36).toInt ((yo0.1 39).toInt + 1) 0 (o0.2.1 57) (o0.2.1 59) (o0.2.1 58) (o0.2.1 62) := by exact Dz_0 (Dn_n x_6 (by omega)) (by decide)
    have p11 : Cu (o0.1 36).toInt ((yo0.1 39).toInt + 1) 0 v1.toInt (yo0.2.1 44) (yo0.2.1 45) (o0.2.1 57) (o0.2.1 59) (o0.2.1 58) := by exact Cu_0 (by decide) (by omega) (fun q hq => x_7 q (by omega))
    have p12 : Bd (o0.1 36).toInt ((yo0.1 39).toInt + 1) 0 (o0.2.1 57) (o0.2.1 63) := by exact Bd_0 (by decide)
    exact H.2 _ _ _ k_o0 r_o0 i_v1 (iv_w (a := 0) (b := 200) (by decide) (by decide) (show (0 : Int) ≤ (0 : Int32).toInt ∧ (0 : Int32).toInt ≤ 0 by decide)) f_o0_0 f_o0_38 f_o0_95 x_0 (show 1 ≤ v1.toInt by omega) (show v1.toInt = yv1.toInt by omega) p5 x_3 p6 p7 p8 p9 p10 p11 (show 0 ≤ 0 by omega) (show 0 ≤ (yo0.1 43).toInt by omega) p12 (show (o0.1 39).toInt = (yo0.1 39).toInt by omega) (show (o0.1 43).toInt = (yo0.1 43).toInt by omega) (show 2 ≤ v1.toInt by omega) (BqZ_0 x_15 (by omega)) (show 0 + (200 - 0) * 2 < (n : Int) by omega)
  · have wc3 : v2.toInt < x1.toInt := c_nle c3
    have i13 : (0 : Int) ≤ v2.toInt ∧ v2.toInt ≤ 8 := nr_nlel c3 i_v2 i2 (by decide) (by decide)
    refine tt_n (ix_ok i13 (by decide) (by decide)) ?_
    refine tt_ko ?_
    have k14 := ok_xp (k := 57) (i := v2.toNatClampNeg) (v := 0) k_o0 (iv_w (a := 0) (b := 300) (by decide) (by decide) (show (0 : Int) ≤ (0 : Int32).toInt ∧ (0 : Int32).toInt ≤ 0 by decide))
    have r15 := fr_xp (k := 57) (i := v2.toNatClampNeg) (v := 0) r_o0 rfl
    refine tt_n (ix_ok i13 (by decide) (by decide)) ?_
    refine tt_ko ?_
    have k16 := ok_xp (k := 62) (i := v2.toNatClampNeg) (v := 0) k14 (iv_w (a := 0) (b := 208) (by decide) (by decide) (show (0 : Int) ≤ (0 : Int32).toInt ∧ (0 : Int32).toInt ≤ 0 by decide))
    have r17 := fr_xp (k := 62) (i := v2.toNatClampNeg) (v := 0) r15 rfl
    refine tt_b (sM_alone _ _ k16 (iv_w (a := 0) (b := 208) (by decide) (by decide) i13) f_o0_0 f_o0_38 f_o0_95 x_0) (fun q18 hq18 => ?_)
    obtain ⟨k_q18, n_q18, zq18_0, zq18_1, zq18_2, zq18_3, zq18_4, -⟩ := hq18
    have r_q18 := fr_tr r17 n_q18 rfl rfl rfl
    have f_q18_0 : (0 : Int) ≤ (q18.1 0).toInt ∧ (q18.1 0).toInt ≤ 2 := by rw [n_q18.1 0 rfl]; exact f_o0_0
    have f_q18_36 : (0 : Int) ≤ (q18.1 36).toInt ∧ (q18.1 36).toInt ≤ 0 := by rw [n_q18.1 36 rfl]; exact f_o0_36
    have f_q18_38 : (1 : Int) ≤ (q18.1 38).toInt ∧ (q18.1 38).toInt ≤ 1 := by rw [n_q18.1 38 rfl]; exact f_o0_38
    have f_q18_95 : (0 : Int) ≤ (q18.1 95).toInt ∧ (q18.1 95).toInt ≤ 0 := by rw [n_q18.1 95 rfl]; exact f_o0_95
    have e_q18_36 : (q18.1 36).toInt = (o0.1 36).toInt := congrArg Int32.toInt (n_q18.1 36 rfl)
    have e_q18_39 : (q18.1 39).toInt = (o0.1 39).toInt := congrArg Int32.toInt (n_q18.1 39 rfl)
    have g_q18_39 : (0 : Int) ≤ (q18.1 39).toInt ∧ (q18.1 39).toInt ≤ 8 := k_q18.1 39
    have e_q18_43 : (q18.1 43).toInt = (o0.1 43).toInt := congrArg Int32.toInt (n_q18.1 43 rfl)
    have g_q18_43 : (0 : Int) ≤ (q18.1 43).toInt ∧ (q18.1 43).toInt ≤ 200 := k_q18.1 43
    have zq18_0 : Cn (q18.2.1 59) (q18.2.1 58) := zq18_0
    have zq18_1 : Al v2.toInt (upd (o0.2.1 57) (v2.toNatClampNeg) 0) (o0.2.1 59) (q18.2.1 59) := zq18_1
    have zq18_2 : An v2.toInt v2 (upd (o0.2.1 57) (v2.toNatClampNeg) 0) (o0.2.1 58) (q18.2.1 58) := zq18_2
    have zq18_3 : (v2.toInt = 0 → ((q18.2.1 59) (upd (o0.2.1 57) (v2.toNatClampNeg) 0 v2.toNatClampNeg).toInt.toNat).toInt = 0) := zq18_3
    have zq18_4 : (1 ≤ v2.toInt → ((q18.2.1 59) (301 * v2.toInt + (upd (o0.2.1 57) (v2.toNatClampNeg) 0 v2.toNatClampNeg).toInt).toNat).toInt = 1) := zq18_4
    refine tt_kv (P := fun z => ((1 : Int) ≤ z.toInt ∧ z.toInt ≤ 9) ∧ z.toInt = v2.toInt + 1) ⟨iv_add i13 (show (1 : Int) ≤ (1 : Int32).toInt ∧ (1 : Int32).toInt ≤ 1 by decide) (by decide) (by decide) (by decide) (by decide), iq_add i13 (show (1 : Int) ≤ (1 : Int32).toInt ∧ (1 : Int32).toInt ≤ 1 by decide) (by decide) (by decide)⟩ (fun x19 qi20 => ?_)
    obtain ⟨i20, ei20⟩ := qi20
    have p21 : Cz x19.toInt ((yo0.1 39).toInt + 1) (yo0.1 43).toInt (yo0.2.1 44) (yo0.2.1 45) (q18.2.1 57) (q18.2.1 59) (q18.2.1 58) := by rw [(show Fr (fr_M [] [58, 59, 60, 61] []) _ _ by assumption).2.1 57 rfl]; exact Cz_i (Cz_u x_4 (by rw [tn_n]; omega)) (show Al v2.toInt _ _ _ by assumption) (show An v2.toInt _ _ _ _ by assumption) rfl (by omega) (by omega) (fun c => (k_o0.2 59 c).2) (fun q => (show okO I_M (xp _ _ _ _) by assumption).2 57 q) (congrArg Int32.toInt (up_s _ _ _))
    have p22 : Ca x19.toInt (q18.2.1 57) (q18.2.1 59) (q18.2.1 58) := by rw [(show Fr (fr_M [] [58, 59, 60, 61] []) _ _ by assumption).2.1 57 rfl]; exact Ca_i (Ca_u x_5 (by rw [tn_n]; omega)) (fun q => (show okO I_M (xp _ _ _ _) by assumption).2 57 q) (show Al v2.toInt _ _ _ by assumption) (show An v2.toInt _ _ _ _ by assumption) rfl (by assumption) (by omega) (by omega)
    have p23 : Dn x19.toInt (q18.2.1 62) := by rw [(show Fr (fr_M [] [58, 59, 60, 61] []) _ _ by assumption).2.1 62 rfl]; exact Dn_s x_6 (by omega) (by rw [tn_n]; omega) (by have z0 : (0 : Int32).toInt = 0 := (by decide); omega)
    have p24 : Fc x19.toInt (q18.2.1 57) := by rw [(show Fr (fr_M [] [58, 59, 60, 61] []) _ _ by assumption).2.1 57 rfl]; exact Fc_s x_7 (by omega) (by rw [tn_n]; omega) (by decide)
    have p25 : Zz x19.toInt (q18.2.1 57) (q18.2.1 59) := by rw [(show Fr (fr_M [] [58, 59, 60, 61] []) _ _ by assumption).2.1 57 rfl]; exact Zz_s x_8 (by rw [tn_n]; omega) (by decide) (show Al v2.toInt _ _ _ by assumption) (by assumption)
    exact H.1 _ _ _ k_q18 r_q18 i_v1 (iv_w (a := 0) (b := 9) (by decide) (by decide) i20) f_q18_0 f_q18_36 f_q18_38 f_q18_95 zq18_0 (show 1 ≤ v1.toInt by omega) (show v1.toInt = yv1.toInt by omega) x_3 p21 p22 p23 p24 p25 (show 0 ≤ x19.toInt by omega) (show x19.toInt ≤ (yo0.1 39).toInt + 1 by omega) (show (q18.1 36).toInt = 0 by omega) (show (q18.1 39).toInt = (yo0.1 39).toInt by omega) (show (q18.1 43).toInt = (yo0.1 43).toInt by omega) (show 2 ≤ v1.toInt by omega) (D0q_s (o := o0) (r := q18) x_15 (show Fr (fr_M [] [58, 59, 60, 61] []) _ _ by assumption) (by omega) (by rw [tn_n]; omega)) (show 402 + (9 - x19.toInt) * 2 < (n : Int) by omega)
set_option maxHeartbeats 4000000 in
set_option maxRecDepth 100000 in
theorem hN_cutAll (yv1 : Int32) (yo0 : cf_O) : ∀ n, HN_cutAll yv1 yo0 n := by
  intro n
  induction n with
  | zero => exact ⟨(fun v1 v2 o0 k_o0 r_o0 i_v1 i_v2 f_o0_0 f_o0_36 f_o0_38 f_o0_95 x_0 x_1 x_2 x_3 x_4 x_5 x_6 x_7 x_8 x_9 x_10 x_11 x_12 x_13 x_14 x_15 hm => by exact absurd (show 402 + (9 - v2.toInt) * 2 < (0 : Int) from hm) (by omega)), (fun v1 v2 o0 k_o0 r_o0 i_v1 i_v2 f_o0_0 f_o0_38 f_o0_95 x_0 x_1 x_2 x_3 x_4 x_5 x_6 x_7 x_8 x_9 x_10 x_11 x_12 x_13 x_14 x_15 x_16 x_17 hm => by exact absurd (show 0 + (200 - v2.toInt) * 2 < (0 : Int) from hm) (by omega))⟩
  | succ n ih => exact ⟨(fun v1 v2 o0 k_o0 r_o0 i_v1 i_v2 f_o0_0 f_o0_36 f_o0_38 f_o0_95 x_0 x_1 x_2 x_3 x_4 x_5 x_6 x_7 x_8 x_9 x_10 x_11 x_12 x_13 x_14 x_15 hm => tN_cutAll_7 ih v1 v2 o0 k_o0 r_o0 i_v1 i_v2 f_o0_0 f_o0_36 f_o0_38 f_o0_95 x_0 x_1 x_2 x_3 x_4 x_5 x_6 x_7 x_8 x_9 x_10 x_11 x_12 x_13 x_14 x_15 (by omega)), (fun v1 v2 o0 k_o0 r_o0 i_v1 i_v2 f_o0_0 f_o0_38 f_o0_95 x_0 x_1 x_2 x_3 x_4 x_5 x_6 x_7 x_8 x_9 x_10 x_11 x_12 x_13 x_14 x_15 x_16 x_17 hm => tN_cutAll_42 ih v1 v2 o0 k_o0 r_o0 i_v1 i_v2 f_o0_0 f_o0_38 f_o0_95 x_0 x_1 x_2 x_3 x_4 x_5 x_6 x_7 x_8 x_9 x_10 x_11 x_12 x_13 x_14 x_15 x_16 x_17 (by omega))⟩
set_option maxHeartbeats 4000000 in
set_option maxRecDepth 100000 in
theorem sN_cutAll (v1 : Int32) (o0 : cf_O) (k_o0 : okO I_M o0) (i_v1 : (0 : Int) ≤ v1.toInt ∧ v1.toInt ≤ 5) (f_o0_0 : (0 : Int) ≤ (o0.1 0).toInt ∧ (o0.1 0).toInt ≤ 2) (f_o0_38 : (1 : Int) ≤ (o0.1 38).toInt ∧ (o0.1 38).toInt ≤ 1) (f_o0_95 : (0 : Int) ≤ (o0.1 95).toInt ∧ (o0.1 95).toInt ≤ 0) (x_0 : Cn (o0.2.1 59) (o0.2.1 58)) (x_1 : 1 ≤ v1.toInt) (x_2 : Gx ((o0.1 39).toInt + 1) (o0.1 43).toInt (o0.2.1 44) (o0.2.1 45)) (x_3 : 2 ≤ v1.toInt) : tt (fM_cutAll v1 o0) (QN_cutAll v1 o0) := by
  have H := hN_cutAll v1 o0 cfFU
  have hm : (423 : Int) ≤ (cfFU : Nat) := by decide
  have r_o0 : Fr (fr_M [36] [57, 58, 59, 60, 61, 62, 63] []) o0 o0 := fr_rfl
  unfold fM_cutAll fM_cutAll_0
  have g_o0_36 : (0 : Int) ≤ (o0.1 36).toInt ∧ (o0.1 36).toInt ≤ 1 := k_o0.1 36
  have g_o0_39 : (0 : Int) ≤ (o0.1 39).toInt ∧ (o0.1 39).toInt ≤ 8 := k_o0.1 39
  have g_o0_43 : (0 : Int) ≤ (o0.1 43).toInt ∧ (o0.1 43).toInt ≤ 200 := k_o0.1 43
  refine tt_ko ?_
  have k1 := ok_fp (k := 36) (v := 0) k_o0 (iv_w (a := 0) (b := 1) (by decide) (by decide) (show (0 : Int) ≤ (0 : Int32).toInt ∧ (0 : Int32).toInt ≤ 0 by decide))
  have r2 := fr_fp (k := 36) (v := 0) r_o0 rfl
  have p3 : Cz 0 ((o0.1 39).toInt + 1) (o0.1 43).toInt (o0.2.1 44) (o0.2.1 45) (o0.2.1 57) (o0.2.1 59) (o0.2.1 58) := by exact Cz_0 (by decide)
  have p4 : Ca 0 (o0.2.1 57) (o0.2.1 59) (o0.2.1 58) := by exact Ca_0 (by decide)
  have p5 : Dn 0 (o0.2.1 62) := by exact Dn_0 (by decide)
  have p6 : Fc 0 (o0.2.1 57) := by exact Fc_0 _
  have p7 : Zz 0 (o0.2.1 57) (o0.2.1 59) := by exact Zz_0 (by decide)
  exact H.1 _ _ _ k1 r2 i_v1 (iv_w (a := 0) (b := 9) (by decide) (by decide) (show (0 : Int) ≤ (0 : Int32).toInt ∧ (0 : Int32).toInt ≤ 0 by decide)) f_o0_0 (show (0 : Int) ≤ (0 : Int32).toInt ∧ (0 : Int32).toInt ≤ 0 by decide) f_o0_38 f_o0_95 x_0 (show 1 ≤ v1.toInt by omega) (show v1.toInt = v1.toInt by omega) x_2 p3 p4 p5 p6 p7 (show 0 ≤ 0 by omega) (show 0 ≤ (o0.1 39).toInt + 1 by omega) (show 0 = 0 by omega) (show (o0.1 39).toInt = (o0.1 39).toInt by omega) (show (o0.1 43).toInt = (o0.1 43).toInt by omega) (show 2 ≤ v1.toInt by omega) (D0q_0 (by decide)) (show 402 + (9 - 0) * 2 < ((cfFU : Nat) : Int) by omega)
