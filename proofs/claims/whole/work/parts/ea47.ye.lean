def gvB (b x : Nat) : Bool := decide (x % 2 = 0 ∧ 1 ≤ x / 2 ∧ x / 2 < b)
theorem isg_sp {b n x : Nat} {gr om : cf_O} {v q : Int32} (R : RGq b n gr om) (ev : v.toInt = (x : Int)) (h : fM_isGiven v om = some q) : q = bI (gvB b x) := by
  have R0 := R.1
  have e2 : (v / 2).toInt = v.toInt / 2 := i_dv (y := 2) (by omega) (by decide)
  unfold fM_isGiven fM_isGiven_0 at h
  rw [opk] at h
  have no : ¬ (x % 2 = 0 ∧ 1 ≤ x / 2 ∧ x / 2 < b) → fM_isGiven_24 om = some q → q = bI (gvB b x) := fun nn z => by
    unfold fM_isGiven_24 fM_isGiven_25 at z
    rw [b01_sp z]
    unfold gvB
    rw [decide_eq_false nn]; rfl
  rcases ifc h with ⟨a, h⟩ | ⟨a, h⟩
  · have a := c_eq a
    rw [md2_i (by omega), show (0 : Int32).toInt = 0 from rfl] at a
    rw [opk] at h
    obtain ⟨y, hy, h⟩ := bd h
    have iy := in_sp hy
    rw [e2, show (1 : Int32).toInt = 1 from rfl, R0.2.2.1] at iy
    rcases ifc h with ⟨c, h⟩ | ⟨c, h⟩
    · refine no (fun z => Yn_0 iy c ?_) h
      omega
    · have := Yn_1 iy c
      unfold fM_isGiven_25 at h
      rw [b01_sp h]
      unfold gvB
      rw [decide_eq_true (by omega)]; rfl
  · refine no (fun z => a (Int32.toInt_inj.mp ?_)) h
    rw [md2_i (by omega), show (0 : Int32).toInt = 0 from rfl]
    omega
def RmT (b : Nat) (om : cf_O) (mt : Nat → Option Nat) (m : Nat) : Prop := ∀ x : Nat, 2 ≤ x → x < 2 * m → (om.2.1 86 x = 0 ∧ mt x = none) ∨ (om.2.1 86 x = 1 ∧ ∃ t : Nat, mt x = some t ∧ t ≤ 198 * (x / 2) ∧ ((gvB b x = true ∧ t = 0) ∨ (gvB b x = false ∧ (om.2.1 87 (5 * x)).toInt = (t : Int))))
theorem RmT_f {b m : Nat} {om om2 : cf_O} {mt : Nat → Option Nat} (h : RmT b om mt m) (e6 : om2.2.1 86 = om.2.1 86) (e7 : om2.2.1 87 = om.2.1 87) : RmT b om2 mt m := by
  unfold RmT at h ⊢
  rw [e6, e7]; exact h
theorem mul5 {v : Int32} {l : Nat} (e : v.toInt = (l : Int)) (hl : l < 100000) : (5 * v).toInt = ((5 * l : Nat) : Int) := by rw [i_mul (by rw [e]; show -2147483648 ≤ 5 * (l : Int); omega) (by rw [e]; show 5 * (l : Int) ≤ 2147483647; omega), e]; show 5 * (l : Int) = _; omega
theorem mul4 {v : Int32} {l : Nat} (e : v.toInt = (l : Int)) (hl : l < 100000) : (4 * v).toInt = ((4 * l : Nat) : Int) := by rw [i_mul (by rw [e]; show -2147483648 ≤ 4 * (l : Int); omega) (by rw [e]; show 4 * (l : Int) ≤ 2147483647; omega), e]; show 4 * (l : Int) = _; omega
theorem mul2 {v : Int32} {l : Nat} (e : v.toInt = (l : Int)) (hl : l < 100000) : (2 * v).toInt = ((2 * l : Nat) : Int) := by rw [i_mul (by rw [e]; show -2147483648 ≤ 2 * (l : Int); omega) (by rw [e]; show 2 * (l : Int) ≤ 2147483647; omega), e]; show 2 * (l : Int) = _; omega
theorem addk {v : Int32} {l k : Nat} {w : Int32} (e : v.toInt = (l : Int)) (ew : w.toInt = (k : Int)) (hl : l < 1000000) (hk : k < 1000000) : (v + w).toInt = ((l + k : Nat) : Int) := by rw [i_add (by omega) (by omega)]; omega
theorem tmo_sp {b n m x t : Nat} {mt : Nat → Option Nat} {gr om : cf_O} {v q : Int32} (R : RGq b n gr om) (T : RmT b om mt m) (ev : v.toInt = (x : Int)) (x2 : 2 ≤ x) (xm : x < 2 * m) (hm : m ≤ 209) (ht : mt x = some t) (h : fM_timeOf v om = some q) : q.toInt = (t : Int) := by
  rcases T x x2 xm with ⟨_, z⟩ | ⟨_, t', z, _, g⟩
  · rw [z] at ht; cases ht
  · rw [z] at ht
    have et := Option.some.inj ht
    subst et
    unfold fM_timeOf fM_timeOf_0 at h
    rcases ifc h with ⟨a, h⟩ | ⟨a, h⟩
    · have a : v.toInt < 2 := c_lt a
      omega
    · obtain ⟨y, hy, h⟩ := bd h
      have ey := isg_sp R ev hy
      rcases g with ⟨g1, g2⟩ | ⟨g1, g2⟩
      · rw [ey, g1, if_neg (by decide)] at h
        unfold fM_timeOf_13 fM_timeOf_25 at h
        rw [← Option.some.inj h, g2]; rfl
      · rw [ey, g1, if_pos (show bI false = 0 from rfl), opk, tW (mul5 ev (by omega))] at h
        have h := (ifn h).2
        rw [opk] at h
        unfold fM_timeOf_25 at h
        rw [← Option.some.inj h]; exact g2
def tmP (mt : Nat → Option Nat) (x : Nat → Nat) : Nat → Option Nat
  | 0 => some 0
  | k + 1 => (tmP mt x k).bind (fun a => (mt (x k)).map (fun t => max a t))
theorem tmP_n {mt : Nat → Option Nat} {x : Nat → Nat} {k : Nat} (h : mt (x k) = none) : ∀ s : Nat, k < s → tmP mt x s = none
  | 0, hs => absurd hs (Nat.not_lt_zero _)
  | s + 1, hs => by
    show (tmP mt x s).bind (fun a => (mt (x s)).map (fun t => max a t)) = none
    by_cases e : k = s
    · subst e
      rw [h]
      cases tmP mt x k <;> rfl
    · rw [tmP_n h s (by omega)]; rfl
theorem tmP_c {mt mt2 : Nat → Option Nat} {x x2 : Nat → Nat} : ∀ s : Nat, (∀ k : Nat, k < s → mt (x k) = mt2 (x2 k)) → tmP mt x s = tmP mt2 x2 s
  | 0, _ => rfl
  | s + 1, h => by
    show (tmP mt x s).bind (fun a => (mt (x s)).map (fun t => max a t)) = (tmP mt2 x2 s).bind (fun a => (mt2 (x2 s)).map (fun t => max a t))
    rw [tmP_c s (fun k hk => h k (by omega)), h s (by omega)]
def MaQ (om : cf_O) (cl s B : Nat) (x : Nat → Nat) : Prop := (om.2.1 90 1).toInt = (cl : Int) ∧ ∀ k : Nat, k < 3 → (k < s → (om.2.1 90 (2 + k)).toInt = (x k : Int) ∧ 2 ≤ x k ∧ x k < B) ∧ (s ≤ k → (om.2.1 90 (2 + k)).toInt = -1)
theorem MaQ_f {om om2 : cf_O} {cl s B : Nat} {x : Nat → Nat} (h : MaQ om cl s B x) (e : ∀ k : Nat, 1 ≤ k → om2.2.1 90 k = om.2.1 90 k) : MaQ om2 cl s B x := by
  refine ⟨by rw [e 1 (by decide)]; exact h.1, fun k hk => ?_⟩
  rw [e (2 + k) (by omega)]; exact h.2 k hk
def pnS (x : Nat → Nat) (s : Nat) : Nat := (if 0 < s then x 0 else 0) * 2 ^ 20 + (if 1 < s then x 1 else 0) * 2 ^ 10 + (if 2 < s then x 2 else 0)
def cvV (fa : Nat → Int32) (cl a s : Nat) (x : Nat → Nat) : Nat := (a + (fa (4 * cl + 1)).toInt.toNat) * 2 ^ 44 + (fa (4 * cl)).toInt.toNat * 2 ^ 34 + cl * 2 ^ 30 + pnS x s
def RvQ (om : cf_O) (l c B T v : Nat) : Prop := (om.2.1 88 l = 0 ∧ v = NOM) ∨ (om.2.1 88 l = 1 ∧ MfQ (om.2.1 84) (om.2.1 89) (5 * l) c B T ∧ v = pkM (om.2.1 84) (om.2.1 89) (5 * l))
theorem RvQ_c {om om2 : cf_O} {l c B T v : Nat} (h : RvQ om l c B T v) (e8 : om2.2.1 88 l = om.2.1 88 l) (e4 : om2.2.1 84 = om.2.1 84) (e9 : ∀ k : Nat, k < 5 → om2.2.1 89 (5 * l + k) = om.2.1 89 (5 * l + k)) : RvQ om2 l c B T v := by
  unfold RvQ
  rw [e8, e4]
  rcases h with h | ⟨h1, h2, h3⟩
  · exact Or.inl h
  · obtain ⟨q1, q2⟩ := MfQ_c h2 e9
    exact Or.inr ⟨h1, q1, by rw [q2]; exact h3⟩
def TmE (om r : cf_O) (l c B T v w : Nat) : Prop := RvQ r l c B T w ∧ (∀ l' : Nat, ¬ l' = l → r.2.1 88 l' = om.2.1 88 l' ∧ ∀ k : Nat, k < 5 → r.2.1 89 (5 * l' + k) = om.2.1 89 (5 * l' + k)) ∧ (∀ k : Nat, 1 ≤ k → r.2.1 90 k = om.2.1 90 k)
theorem ma_pk {om : cf_O} {cl s B a c : Nat} {x : Nat → Nat} {z : Int32} (h : MaQ om cl s B x) (hz : z.toInt = ((a + (om.2.1 84 (4 * cl + 1)).toInt.toNat : Nat) : Int)) (hB : B ≤ 418) (hcl : cl < c) (es : (om.2.1 84 (4 * cl + 2)).toInt = (s : Int)) (hs : s ≤ 3) : pkM (om.2.1 84) (upd (om.2.1 90) 0 z) 0 = cvV (om.2.1 84) cl a s x ∧ MfQ (om.2.1 84) (upd (om.2.1 90) 0 z) 0 c B (a + (om.2.1 84 (4 * cl + 1)).toInt.toNat) := by
  have u0 : upd (om.2.1 90) 0 z 0 = z := up_s _ _ _
  have u1 : ∀ k : Nat, 1 ≤ k → upd (om.2.1 90) 0 z k = om.2.1 90 k := fun k hk => up_o (by omega)
  have k0 := h.2 0 (by decide)
  have k1 := h.2 1 (by decide)
  have k2 := h.2 2 (by decide)
  have k0 : (0 < s → (om.2.1 90 2).toInt = (x 0 : Int) ∧ 2 ≤ x 0 ∧ x 0 < B) ∧ (s ≤ 0 → (om.2.1 90 2).toInt = -1) := k0
  have k1 : (1 < s → (om.2.1 90 3).toInt = (x 1 : Int) ∧ 2 ≤ x 1 ∧ x 1 < B) ∧ (s ≤ 1 → (om.2.1 90 3).toInt = -1) := k1
  have k2 : (2 < s → (om.2.1 90 4).toInt = (x 2 : Int) ∧ 2 ≤ x 2 ∧ x 2 < B) ∧ (s ≤ 2 → (om.2.1 90 4).toInt = -1) := k2
  have t0 : (om.2.1 90 2).toInt.toNat = if 0 < s then x 0 else 0 := by
    by_cases q : 0 < s
    · rw [if_pos q]; have := (k0.1 q).1; omega
    · rw [if_neg q]; have := k0.2 (by omega); omega
  have t1 : (om.2.1 90 3).toInt.toNat = if 1 < s then x 1 else 0 := by
    by_cases q : 1 < s
    · rw [if_pos q]; have := (k1.1 q).1; omega
    · rw [if_neg q]; have := k1.2 (by omega); omega
  have t2 : (om.2.1 90 4).toInt.toNat = if 2 < s then x 2 else 0 := by
    by_cases q : 2 < s
    · rw [if_pos q]; have := (k2.1 q).1; omega
    · rw [if_neg q]; have := k2.2 (by omega); omega
  have tc : (om.2.1 90 1).toInt.toNat = cl := by rw [h.1]; rfl
  have tz : z.toInt.toNat = a + (om.2.1 84 (4 * cl + 1)).toInt.toNat := by rw [hz]; rfl
  constructor
  · unfold pkM cvV pnS
    rw [u0, u1 (0 + 1) (by decide), u1 (0 + 2) (by decide), u1 (0 + 3) (by decide), u1 (0 + 4) (by decide), show (0 + 1) = 1 from rfl, show (0 + 2) = 2 from rfl, show (0 + 3) = 3 from rfl, show (0 + 4) = 4 from rfl, tc, tz, t0, t1, t2]
    omega
  · refine ⟨cl, s, ⟨hcl, by rw [u1 (0 + 1) (by decide)]; exact h.1⟩, ⟨es, hs⟩, ⟨by rw [u0]; omega, by rw [u0]; omega⟩, fun k hk => ?_⟩
    rw [Nat.zero_add, u1 (2 + k) (by omega)]
    refine ⟨fun q => ?_, (h.2 k hk).2⟩
    have := (h.2 k hk).1 q
    omega
theorem tm_fin {rc : Nat → Int32 → Int32 → Int32 → Int32 → cf_O → Option cf_O} {l s c cl a B T v : Nat} {f : Nat → Nat → Bool} {L : Nat → Bool} {x y : Nat → Nat} {om r : cf_O} {v1 v2 v3 v4 : Int32} (Q : GmQ om l s cl f L y) (M : MaQ om cl s B x) (e1 : v1.toInt = (l : Int)) (hl : l < 420) (e2 : v2.toInt = (s : Int)) (hs : s ≤ 3) (e3 : v3.toInt = (a : Int)) (ha : a ≤ 42000) (hle : s ≤ v4.toInt) (hB : B ≤ 418) (hcl : cl < c) (es : (om.2.1 84 (4 * cl + 2)).toInt = (s : Int)) (hA : ArQ c (om.2.1 84)) (dl : 1 ≤ (om.2.1 84 (4 * cl + 1)).toInt ∧ (om.2.1 84 (4 * cl + 1)).toInt ≤ 99) (hT : a + 99 ≤ T) (hT5 : T ≤ 500000) (V : RvQ om l c B T v) (h : fM_tryMatch_5 rc v1 v2 v3 v4 om = some r) : ((∀ j : Nat, j < 8 → bt (om.2.1 84 (4 * cl + 3)) (ixA f j s) = L j) ∧ TmE om r l c B T v (min v (cvV (om.2.1 84) cl a s x))) ∨ ((∃ j : Nat, j < 8 ∧ ¬ bt (om.2.1 84 (4 * cl + 3)) (ixA f j s) = L j) ∧ TmE om r l c B T v v) := by
  have c12 := hA.1
  unfold fM_tryMatch_5 at h
  rw [if_pos (Int32.le_iff_toInt_le.mpr (by omega))] at h
  have h := (ifn h).2
  rw [opk, show om.2.1 90 (1 : Int32).toNatClampNeg = om.2.1 90 1 from rfl, opk, opk, tW (addk (k := 1) (mul4 M.1 (by omega)) rfl (by omega) (by decide))] at h
  have h := (ifn h).2
  rw [opk, opk] at h
  have h := (ifn h).2
  rw [opk, show xp om 90 (0 : Int32).toNatClampNeg (v3 + om.2.1 84 (4 * cl + 1)) = xp om 90 0 (v3 + om.2.1 84 (4 * cl + 1)) from rfl] at h
  have ez : (v3 + om.2.1 84 (4 * cl + 1)).toInt = ((a + (om.2.1 84 (4 * cl + 1)).toInt.toNat : Nat) : Int) := by rw [i_add (by omega) (by omega)]; omega
  generalize v3 + om.2.1 84 (4 * cl + 1) = z at h ez
  obtain ⟨pk1, mf1⟩ := ma_pk M ez hB hcl es hs
  have mf1 := MfQ_w (T2 := T) mf1 (Nat.le_refl _) (by omega)
  have o90 : (xp om 90 0 z).2.1 90 = upd (om.2.1 90) 0 z := rfl
  have keep : ∀ k : Nat, 1 ≤ k → (xp om 90 0 z).2.1 90 k = om.2.1 90 k := fun k hk => by rw [o90]; exact up_o (by omega)
  have V1 : RvQ (xp om 90 0 z) l c B T v := RvQ_c V rfl rfl (fun _ _ => rfl)
  have same : fM_tryMatch_138 rc (xp om 90 0 z) = some r → TmE om r l c B T v v := fun w => by
    unfold fM_tryMatch_138 at w
    rw [← Option.some.inj w]
    exact ⟨V1, fun _ _ => ⟨rfl, fun _ _ => rfl⟩, keep⟩
  have Q1 : GmQ (xp om 90 0 z) l s cl f L y := ⟨fun k hk => by rw [keep (2 + k) (by omega)]; exact Q.1 k hk, Q.2⟩
  obtain ⟨g, hg, h⟩ := bd h
  have G := gives_sp Q1 e1 e2 hs (by rw [keep 1 (by decide)]; exact M.1) hg
  have takes : (om.2.1 88 l = 0 ∨ pkM (om.2.1 84) (upd (om.2.1 90) 0 z) 0 < v) → fM_tryMatch_120 rc v1 (xp om 90 0 z) = some r → TmE om r l c B T v (min v (cvV (om.2.1 84) cl a s x)) := fun lt w => by
    unfold fM_tryMatch_120 at w
    have w := (ifn w).2
    rw [opk, opk, tW e1, vb_1] at w
    obtain ⟨u, hu, w⟩ := bd w
    unfold fM_tryMatch_138 at w
    rw [← Option.some.inj w]
    obtain ⟨k1, k2⟩ := km9_sp hl (mul5 e1 (by omega)) hu
    have fr := wF_M_keepMatch_M89 hu
    have k1 : ∀ j : Nat, j < 5 → u.2.1 89 (5 * l + j) = upd (om.2.1 90) 0 z (0 + j) := fun j hj => by rw [Nat.zero_add]; exact k1 j hj
    obtain ⟨q1, q2⟩ := MfQ_c mf1 k1
    have e84 : u.2.1 84 = om.2.1 84 := fr.2.1 84 rfl
    have e88 : u.2.1 88 = upd (om.2.1 88) l 1 := fr.2.1 88 rfl
    refine ⟨Or.inr ⟨by rw [e88]; exact up_s _ _ _, by rw [e84]; exact q1, ?_⟩, fun l' hl' => ⟨by rw [e88]; exact up_o hl', fun k hk => ?_⟩, fun k hk => ?_⟩
    · rw [e84, q2, pk1]
      rw [pk1] at lt
      rcases lt with lt | lt
      · rcases V with ⟨_, ev⟩ | ⟨z1, _⟩
        · have : cvV (om.2.1 84) cl a s x < NOM := by
            rw [← pk1]
            obtain ⟨c1, s1, ⟨h1, h1'⟩, ⟨h2, h2'⟩, h3, h4⟩ := mf1
            have A1 := hA.2 c1 h1
            have bd3 : ∀ (x : Int) (s k : Nat), ((k < s → 0 ≤ x ∧ x < (B : Int)) ∧ (s ≤ k → x = -1)) → x.toNat < 1024 := fun x s k h => by
              by_cases z : k < s
              · have := h.1 z; omega
              · have := h.2 (by omega); omega
            have f0 := bd3 _ _ _ (h4 0 (by decide))
            have f1 := bd3 _ _ _ (h4 1 (by decide))
            have f2 := bd3 _ _ _ (h4 2 (by decide))
            have f0 : (upd (om.2.1 90) 0 z (0 + 2)).toInt.toNat < 1024 := f0
            have f1 : (upd (om.2.1 90) 0 z (0 + 3)).toInt.toNat < 1024 := f1
            have f2 : (upd (om.2.1 90) 0 z (0 + 4)).toInt.toNat < 1024 := f2
            unfold pkM NOM
            rw [show (upd (om.2.1 90) 0 z (0 + 1)).toInt.toNat = c1 by omega]
            omega
          omega
        · rw [lt] at z1; exact absurd z1 (by decide)
      · omega
    · exact k2 (5 * l' + k) (by omega)
    · rw [fr.2.1 90 rfl]; exact keep k hk
  rcases G with ⟨g1, g2⟩ | ⟨g1, g2⟩
  · refine Or.inl ⟨g2, ?_⟩
    rw [g1, if_neg (by decide)] at h
    have h := (ifn h).2
    rw [opk, tW e1] at h
    have h88 : (xp om 90 0 z).2.1 88 l = om.2.1 88 l := rfl
    rw [h88] at h
    rcases ifc h with ⟨d, h⟩ | ⟨d, h⟩
    · exact takes (Or.inl d) h
    · rcases V with ⟨z1, _⟩ | ⟨z1, z2, z3⟩
      · exact absurd z1 d
      · rw [opk] at h
        obtain ⟨q, hq, h⟩ := bd h
        have A := against_sp hl (mul5 e1 (by omega)) (show MfQ ((xp om 90 0 z).2.1 84) ((xp om 90 0 z).2.1 90) 0 c B T from mf1) (show MfQ ((xp om 90 0 z).2.1 84) ((xp om 90 0 z).2.1 89) (5 * l) c B T from z2) (by omega) hT5 hA hq
        have A : q.toInt < 0 ↔ pkM (om.2.1 84) (upd (om.2.1 90) 0 z) 0 < v := by rw [z3]; exact A
        rcases ifc h with ⟨p, h⟩ | ⟨p, h⟩
        · have p : 0 ≤ q.toInt := c_le p
          have nl : ¬ pkM (om.2.1 84) (upd (om.2.1 90) 0 z) 0 < v := fun w => by have := A.mpr w; omega
          rw [pk1] at nl
          have em : min v (cvV (om.2.1 84) cl a s x) = v := by omega
          rw [em]; exact same h
        · have p : q.toInt < 0 := c_nle p
          exact takes (Or.inr (A.mp p)) h
  · refine Or.inr ⟨g2, ?_⟩
    rw [g1, if_pos rfl] at h
    exact same h
theorem tmt_go {b n m l s c cl B T v : Nat} {f : Nat → Nat → Bool} {L : Nat → Bool} {x y : Nat → Nat} {mt : Nat → Option Nat} {gr om : cf_O} {v1 v2 : Int32} (R : RGq b n gr om) (Tm : RmT b om mt m) (hm : m ≤ 208) (hBm : B = 2 * m) (Q : GmQ om l s cl f L y) (M : MaQ om cl s B x) (e1 : v1.toInt = (l : Int)) (hl : l < 420) (e2 : v2.toInt = (s : Int)) (hs : s ≤ 3) (hs1 : 1 ≤ s) (hcl : cl < c) (es : (om.2.1 84 (4 * cl + 2)).toInt = (s : Int)) (hA : ArQ c (om.2.1 84)) (dl : 1 ≤ (om.2.1 84 (4 * cl + 1)).toInt ∧ (om.2.1 84 (4 * cl + 1)).toInt ≤ 99) (hT : 198 * m + 99 ≤ T + 198) (hT5 : T ≤ 500000) (V : RvQ om l c B T v) : ∀ (fu k a : Nat) (v3 v4 : Int32) (r : cf_O), v4.toInt = (k : Int) → k ≤ s → v3.toInt = (a : Int) → tmP mt x k = some a → a + 198 ≤ 198 * m + (if k = 0 then 198 else 0) → gM_tryMatch fu 0 v1 v2 v3 v4 om = some r → (tmP mt x s = none ∧ TmE om r l c B T v v) ∨ ∃ a : Nat, tmP mt x s = some a ∧ a ≤ 198 * m ∧ (((∀ j : Nat, j < 8 → bt (om.2.1 84 (4 * cl + 3)) (ixA f j s) = L j) ∧ TmE om r l c B T v (min v (cvV (om.2.1 84) cl a s x))) ∨ ((∃ j : Nat, j < 8 ∧ ¬ bt (om.2.1 84 (4 * cl + 3)) (ixA f j s) = L j) ∧ TmE om r l c B T v v))
  | 0, k, a, v3, v4, r, e4, hk, e3, ha, hab, h => by cases h
  | fu + 1, k, a, v3, v4, r, e4, hk, e3, ha, hab, h => by
    have h : fM_tryMatch_5 (gM_tryMatch fu) v1 v2 v3 v4 om = some r := h
    by_cases le : s ≤ k
    · have ek : k = s := by omega
      subst ek
      refine Or.inr ⟨a, ha, by split at hab <;> omega, tm_fin Q M e1 hl e2 hs e3 (by split at hab <;> omega) (by omega) (by omega) hcl es hA dl (by split at hab <;> omega) hT5 V h⟩
    · unfold fM_tryMatch_5 at h
      rw [if_neg (fun q => le (by have := c_le q; omega))] at h
      obtain ⟨m1, m2, m3⟩ := (M.2 k (by omega)).1 (by omega)
      rw [opk, tW (addk (v := 2) (l := 2) (k := k) rfl e4 (by decide) (by omega))] at h
      have h := (ifn h).2
      rw [opk, tW m1] at h
      have h := (ifn h).2
      rw [opk] at h
      rcases Tm (x k) m2 (by omega) with ⟨z1, z2⟩ | ⟨z1, t, z2, z3, z4⟩
      · rw [z1, if_pos rfl] at h
        refine Or.inl ⟨tmP_n z2 s (by omega), ?_⟩
        rw [← Option.some.inj h]
        exact ⟨V, fun _ _ => ⟨rfl, fun _ _ => rfl⟩, fun _ _ => rfl⟩
      · rw [z1, if_neg (by decide)] at h
        obtain ⟨q, hq, h⟩ := bd h
        have eq := tmo_sp R Tm m1 m2 (by omega) (by omega) z2 hq
        have nx : tmP mt x (k + 1) = some (max a t) := by
          show (tmP mt x k).bind (fun a => (mt (x k)).map (fun t => max a t)) = _
          rw [ha, z2]; rfl
        have p4 := pW (v := v4) (by omega) (by omega)
        have bt' : max a t + 198 ≤ 198 * m + (if k + 1 = 0 then 198 else 0) := by
          rw [if_neg (by omega)]
          have : x k / 2 + 1 ≤ m := by omega
          by_cases k0 : k = 0
          · subst k0
            have := Option.some.inj (show some 0 = some a from ha)
            omega
          · rw [if_neg k0] at hab
            omega
        rcases ifc h with ⟨p, h⟩ | ⟨p, h⟩
        · have p := c_le p
          unfold fM_tryMatch_53 at h
          rw [opk] at h
          exact tmt_go R Tm hm hBm Q M e1 hl e2 hs hs1 hcl es hA dl hT hT5 V fu (k + 1) (max a t) v3 (v4 + 1) r (by omega) (by omega) (by omega) nx bt' h
        · have p := c_nle p
          obtain ⟨q2, hq2, h⟩ := bd h
          have eq2 := tmo_sp R Tm m1 m2 (by omega) (by omega) z2 hq2
          unfold fM_tryMatch_53 at h
          rw [opk] at h
          exact tmt_go R Tm hm hBm Q M e1 hl e2 hs hs1 hcl es hA dl hT hT5 V fu (k + 1) (max a t) q2 (v4 + 1) r (by omega) (by omega) (by omega) nx bt' h
