def FqR (b g M : Nat) (re om : cf_O) : Prop := ∀ k : Nat, k < b + g → (k < b ∨ ¬ re.2.1 0 k = 0) → om.2.1 51 k = re.2.1 4 k ∧ 0 ≤ (re.2.1 4 k).toInt ∧ (re.2.1 4 k).toInt < 2 * (M : Int)
def BrC (b n : Nat) (gr re om : cf_O) : Prop := GW b n gr ∧ RGq b n gr om ∧ NdS (b + n) re om ∧ Lk (-1) (b : Int) (n : Int) (om.1 40).toInt (om.2.1 47) (om.2.1 44) (om.2.1 45) (om.2.1 49) (om.2.1 48)
theorem BrC_f {b n : Nat} {gr re om re' om' : cf_O} (B : BrC b n gr re om) (r0 : re'.2.1 0 = re.2.1 0) (r1 : re'.2.1 1 = re.2.1 1) (o39 : om'.1 39 = om.1 39) (o40 : om'.1 40 = om.1 40) (o43 : om'.1 43 = om.1 43) (a44 : om'.2.1 44 = om.2.1 44) (a45 : om'.2.1 45 = om.2.1 45) (a46 : om'.2.1 46 = om.2.1 46) (a47 : om'.2.1 47 = om.2.1 47) (a48 : om'.2.1 48 = om.2.1 48) (a49 : om'.2.1 49 = om.2.1 49) : BrC b n gr re' om' := by
  unfold BrC RGq NdS at B ⊢
  rw [r0, r1, o39, o40, o43, a44, a45, a46, a47, a48, a49]; exact B
theorem BrC_k {b n g : Nat} {gr re om : cf_O} (B : BrC b n gr re om) (hg : g < n) (nz : ¬ re.2.1 0 (b + g) = 0) {x : Int32} (hx : x = gr.2.1 4 (b + g) ∨ x = gr.2.1 5 (b + g)) : 2 ≤ x.toInt ∧ x.toInt.toNat / 2 < b + g ∧ ¬ re.2.1 0 (x.toInt.toNat / 2) = 0 := by
  obtain ⟨G, R, N, LK⟩ := B
  have G0 := G.1
  have gg := G.2.1 g hg
  have rg := R.2.1 g hg
  have b2 : 2 ≤ x.toInt ∧ x.toInt / 2 < ((b + g : Nat) : Int) := by rcases hx with e | e <;> (rw [e]; omega)
  refine ⟨b2.1, by omega, fun z => ?_⟩
  refine LK.2.1 g (b + g) (x.toInt.toNat / 2) (by omega) (by omega) (by omega) ?_ ?_ (by rw [(N _ (by omega)).1, z]; rfl)
  · intro q
    exact nz (Int32.toInt_inj.mp (by rw [← (N (b + g) (by omega)).1, q]; rfl))
  · rcases hx with e | e
    · exact Or.inl (by rw [rg.1, ← e]; omega)
    · exact Or.inr (by rw [rg.2, ← e]; omega)
theorem BrC_o {b n : Nat} {gr re om : cf_O} (B : BrC b n gr re om) {k : Nat} (hk : (k : Int) < (gr.1 1).toInt) : (gr.2.1 7 k).toInt.toNat / 2 < b + n ∧ ¬ re.2.1 0 ((gr.2.1 7 k).toInt.toNat / 2) = 0 := by
  obtain ⟨G, R, N, LK⟩ := B
  have G0 := G.1
  have ob := G.2.2 k hk
  have e47 := R.2.2.2.1 k hk
  have e40 : (om.1 40).toInt = (gr.1 1).toInt := by rw [R.1.2.2.2.2.1]
  refine ⟨by omega, fun z => ?_⟩
  have nz := LK.2.2 k ((gr.2.1 7 k).toInt.toNat / 2) (by omega) (by rw [e47]; omega)
  exact nz (by rw [(N _ (by omega)).1, z]; rfl)
def RgC (b n m : Nat) (gr GT RE OM : cf_O) (rc : cf_O × cf_O) (rm : Int32 × cf_O) : Prop := ∃ (m' : Nat) (gt' om' : cf_O), m ≤ m' ∧ BrC b n gr rc.1 om' ∧ FqR b n (b + m') rc.1 om' ∧ Rg b m' gt' om' ∧ Fr (fr_M [31, 36] [32, 33, 34, 51] []) OM om' ∧ Fr (fr_M [2, 3] [4, 5, 6, 8, 9] []) GT gt' ∧ fRe_takeResults rc.1 gr gt' = some rc.2 ∧ fM_finish om' = some rm
theorem LkQ_c {V : Nat → Nat → Bool} {N b g k : Nat} {nd nd2 : Nat → Int32} (e : nd2 k = nd k) : LkQ V N b nd2 g k ↔ LkQ V N b nd g k := by
  unfold LkQ; rw [e]
theorem rdg_go {b n : Nat} {V : Nat → Nat → Bool} {gr fu GT RE OM : cf_O} (S : VSq b n gr V) (BF : FuB b n V fu) (I : ReI b n (2 ^ (b - 1)) V OM) : ∀ (f1 f2 : Nat) (v4 v1 : Int32) (g m : Nat) (re gt om : cf_O) (rc : cf_O × cf_O) (rm : Int32 × cf_O), v1.toInt = (g : Int) → g ≤ n → v4.toInt = ((b + g : Nat) : Int) → BrC b n gr re om → FqR b g (b + m) re om → Rg b m gt om → Fr (fr_M [31, 36] [32, 33, 34, 51] []) OM om → Fr (fr_M [2, 3] [4, 5, 6, 8, 9] []) GT gt → gRe_makeReduced f1 0 v4 re gr gt fu = some rc → gM_reduce f2 0 v1 0 0 0 om = some rm → RgC b n m gr GT RE OM rc rm
  | 0, f2, v4, v1, g, m, re, gt, om, rc, rm, e1, gn, e4, B, F, R, fo, fg, q1, q2 => by cases q1
  | f1 + 1, 0, v4, v1, g, m, re, gt, om, rc, rm, e1, gn, e4, B, F, R, fo, fg, q1, q2 => by cases q2
  | f1 + 1, f2 + 1, v4, v1, g, m, re, gt, om, rc, rm, e1, gn, e4, B, F, R, fo, fg, q1, q2 => by
    have q1 : fRe_makeReduced_14 (gRe_makeReduced f1) v4 re gr gt fu = some rc := q1
    have q2 : fM_reduce_45 (gM_reduce f2) v1 om = some rm := q2
    have B0 := B
    obtain ⟨G, R0, N, LK⟩ := B
    have G0 := G.1
    have n43 := R0.1.1
    have I' : ReI b n (2 ^ (b - 1)) V om := by
      unfold ReI
      rw [fo.2.2 56 rfl]; exact I
    obtain ⟨z, hz, q1⟩ := mr_14 q1
    have ez := size_sp G hz
    rcases q1 with ⟨a, u, hu, er⟩ | ⟨a, q1⟩
    · rcases rr_45 q2 with ⟨_, q2⟩ | ⟨d, _⟩
      · have eg : g = n := by omega
        subst eg; subst er
        exact ⟨m, gt, om, Nat.le_refl m, B0, F, R, fo, fg, hu, q2⟩
      · omega
    · rcases rr_45 q2 with ⟨d, _⟩ | ⟨d, q, hq, q2⟩
      · omega
      have eb := base_sp R0 hq
      have eqv : (q + v1).toInt = ((b + g : Nat) : Int) := by rw [Int32.toInt_add, eb, i_bm (by omega) (by omega)]; omega
      have eq1 : (q + v1 - 1).toInt = ((b + g : Nat) : Int) - 1 := by rw [i_sub' (by omega) (by omega) (by decide) (by decide), eqv]; rfl
      generalize q + v1 - 1 = w0 at q2 eq1
      generalize q + v1 = v2 at q2 eqv
      have i2 : v2.toNatClampNeg = b + g := by have := tn_n v2; omega
      have i1 : v1.toNatClampNeg = g := by have := tn_n v1; omega
      have i4 : v4.toNatClampNeg = b + g := by have := tn_n v4; omega
      have p4 := p_1 (v := v4) (by omega) (by omega)
      have p1 := p_1 (v := v1) (by omega) (by omega)
      rw [i4] at q1
      have nb := N (b + g) (by omega)
      have gl := R0.2.1 g (by omega)
      -- the next gate
      have nx : ∀ (m' f : Nat) (re' gt' om' : cf_O) (s : Int32), m ≤ m' → Rg b m' gt' om' → Fr (fr_M [31, 36] [32, 33, 34, 51] []) om om' → Fr (fr_M [2, 3] [4, 5, 6, 8, 9] []) gt gt' → re' = xp re 4 (b + g) s → (∀ k : Nat, om'.2.1 51 k = om.2.1 51 k) → 0 ≤ s.toInt → s.toInt < 2 * ((b + m' : Nat) : Int) → gRe_makeReduced f1 0 (v4 + 1) re' gr gt' fu = some rc → gM_reduce f 0 (v1 + 1) 0 0 0 (xp om' 51 (b + g) s) = some rm → RgC b n m gr GT RE OM rc rm := fun m' f re' gt' om' s mm R' fo' fg' er h51 s0 s1 h1 h2 => by
        subst er
        have fom : Fr (fr_M [31, 36] [32, 33, 34, 51] []) om (xp om' 51 (b + g) s) := fr_xp fo' rfl
        obtain ⟨m3, gt3, om3, D1, D2, D3, D4, D5, D6, D7⟩ := rdg_go (GT := GT) (RE := RE) (OM := OM) S BF I f1 f (v4 + 1) (v1 + 1) (g + 1) m' (xp re 4 (b + g) s) gt' (xp om' 51 (b + g) s) rc rm (by omega) (by omega) (by omega) (BrC_f B0 rfl rfl (fom.1 39 rfl) (fom.1 40 rfl) (fom.1 43 rfl) (fom.2.1 44 rfl) (fom.2.1 45 rfl) (fom.2.1 46 rfl) (fom.2.1 47 rfl) (fom.2.1 48 rfl) (fom.2.1 49 rfl)) (fun k hk hc => by
          show upd (om'.2.1 51) (b + g) s k = upd (re.2.1 4) (b + g) s k ∧ 0 ≤ (upd (re.2.1 4) (b + g) s k).toInt ∧ (upd (re.2.1 4) (b + g) s k).toInt < 2 * ((b + m' : Nat) : Int)
          by_cases ek : k = b + g
          · rw [ek, up_s, up_s]; exact ⟨rfl, s0, s1⟩
          · have fk := F k (by omega) hc
            rw [up_o ek, up_o ek, h51]; exact ⟨fk.1, fk.2.1, by have := fk.2.2; omega⟩) R' (fr_tr fo fom rfl rfl rfl) (fr_tr fg fg' rfl rfl rfl) h1 h2
        exact ⟨m3, gt3, om3, by omega, D2, D3, D4, D5, D6, D7⟩
      rcases q1 with ⟨c, q1⟩ | ⟨c, t, ht, q1⟩
      · -- not needed
        cases f2 with
        | zero => cases q2
        | succ f2 =>
          have q2 : fM_reduce_67 (gM_reduce f2) v1 v2 (-1) w0 om = some rm := q2
          rcases rr_67 q2 with ⟨_, q2⟩ | ⟨_, y, _⟩
          · rcases rr_147 q2 with ⟨_, _, q2⟩ | ⟨_, y, _⟩ | ⟨y, _⟩
            · refine rdg_go S BF I f1 f2 (v4 + 1) (v1 + 1) (g + 1) m re gt om rc rm (by omega) (by omega) (by omega) B0 (fun k hk hc => ?_) R fo fg q1 q2
              by_cases ek : k = b + g
              · rw [ek] at hc
                rcases hc with hc | hc
                · omega
                · exact absurd c hc
              · exact F k (by omega) hc
            · rw [i2, nb.1] at y; exact absurd c y
            · exact absurd y (by decide)
          · rw [i2, nb.1] at y; exact absurd c y
      · have La := la_sp G S BF e4 (by omega) ht
        obtain ⟨f, w, Le, q2⟩ := rl_go G S R0 I' eqv (by omega) (by rw [nb.1]; exact c) f2 (-1) w0 rm (b + g) eq1 (Nat.le_refl _) (Or.inl ⟨rfl, fun k k1 k2 => by omega⟩) q2
        have cv : ∀ k : Nat, k < b + g → (LkQ V (2 ^ (b - 1)) b (om.2.1 49) (b + g) k ↔ LkQ V (2 ^ (b - 1)) b (re.2.1 0) (b + g) k) := fun k hk => LkQ_c (N k (by omega)).1
        have kl := BrC_k B0 (by omega) c (Or.inl rfl)
        have kh := BrC_k B0 (by omega) c (Or.inr rfl)
        rcases La with ⟨et, Ln⟩ | ⟨k, k1, k2, k3, k4⟩
        · -- no node is like it
          have ew : w = -1 := by
            rcases Le with ⟨y, _⟩ | ⟨k, _, _, y1, y2, _⟩
            · exact y
            · exact absurd ((cv k y1).mp y2) (Ln k y1)
          rcases q1 with ⟨_, s, hs, q1⟩ | ⟨y, _⟩
          · rcases rr_147 q2 with ⟨_, y, _⟩ | ⟨_, _, s', hs', q2⟩ | ⟨y, _⟩
            · rw [i2, nb.1] at y; exact absurd y c
            · have hs := fra_sp (by rw [i4]; omega) (by rw [i4]; omega) hs
              rw [i4] at hs
              rw [i1, gl.1, gl.2, hf_i (by omega), hf_i (by omega), (F _ kl.2.1 (Or.inr kl.2.2)).1, (F _ kh.2.1 (Or.inr kh.2.2)).1] at hs'
              rw [i2] at q2
              have fl := F _ kl.2.1 (Or.inr kl.2.2)
              have fh := F _ kh.2.1 (Or.inr kh.2.2)
              have xl := xa_b (x := gr.2.1 4 (b + g)) fl.2.1 fl.2.2 (by omega)
              have xh := xa_b (x := gr.2.1 5 (b + g)) fh.2.1 fh.2.2 (by omega)
              obtain ⟨C1, m', C2, C3, C4, C5, C6, C7, C8⟩ := eq_and R xl.1 xl.2 xh.1 xh.2 hs hs'
              rw [C1] at q1
              exact nx m' f (xp re 4 (b + g) s'.1) s.2 s'.2 s'.1 C2 C3 (fr_tr fr_rfl C6 rfl rfl rfl) C7 rfl (fun k => by rw [C6.2.1 51 rfl]) C4 C5 q1 q2
            · rw [ew] at y; exact absurd y (by decide)
          · exact absurd et y
        · -- a like node
          have hw : w.toInt = (k : Int) := by
            rcases Le with ⟨_, y⟩ | ⟨j, y0, _, y1, y2, y3⟩
            · exact absurd ((cv k k1).mpr k2) (y k (Nat.zero_le k) k1)
            · rcases Nat.lt_trichotomy j k with l | l | l
              · exact absurd ((cv j y1).mp y2) (k3 j l)
              · rw [y0, l]
              · exact absurd ((cv k k1).mpr k2) (y3 k (Nat.zero_le k) l)
          have iw : w.toNatClampNeg = k := by have := tn_n w; omega
          have fk := F k k1 k2.1
          have t0 : 0 ≤ t.toInt := by rcases k4 with ⟨_, y⟩ | ⟨_, _, y⟩ <;> omega
          have tk : t.toInt.toNat / 2 = k := by rcases k4 with ⟨_, y⟩ | ⟨_, _, y⟩ <;> omega
          rcases q1 with ⟨y, _⟩ | ⟨_, x, hx, q1⟩
          · rw [y] at t0; exact absurd t0 (by decide)
          · have ex := fresh_sp t0 hx
            rw [tk] at ex
            rcases rr_147 q2 with ⟨y, _⟩ | ⟨y, _⟩ | ⟨_, u, hu, q2⟩
            · omega
            · omega
            · have yu := Yn_i (agree_sp G R0 I' hw eqv (by omega) (by omega) hu) (Q := OpQ V (2 ^ (b - 1)) k (b + g)) ⟨fun z i hi => (z i hi).2 (by decide), fun z i hi => ⟨fun y => absurd y (by decide), fun _ => z i hi⟩⟩
              have p0 : 0 < 2 ^ (b - 1) := Nat.pow_pos (by decide)
              have ea := i_a1 t0
              have exu : x = om.2.1 51 k ^^^ (if u = 0 then 0 else 1) := by
                rw [ex, fk.1]
                rcases k4 with ⟨y1, y2⟩ | ⟨_, y1, y2⟩
                · rw [show t &&& 1 = 0 from Int32.toInt_inj.mp (by rw [ea, show (0 : Int32).toInt = 0 from rfl]; omega)]
                  rcases yu with ⟨_, z⟩ | ⟨z, _⟩
                  · exact absurd (y1 0 p0) (z 0 p0)
                  · rw [if_pos z]
                · rw [show t &&& 1 = 1 from Int32.toInt_inj.mp (by rw [ea, show (1 : Int32).toInt = 1 from rfl]; omega)]
                  rcases yu with ⟨z, _⟩ | ⟨_, z⟩
                  · rw [if_neg (by rw [z]; decide)]
                  · exact absurd y1 z
              rw [i2, iw, ← exu] at q2
              have xb := xa_b (x := t) fk.2.1 fk.2.2 t0
              rw [← ex] at xb
              exact nx m f (xp re 4 (b + g) x) gt om x (Nat.le_refl m) R fr_rfl fr_rfl rfl (fun _ => rfl) xb.1 xb.2 q1 q2
