def opN (l : Nat) : Nat := if l % 2 = 0 then l + 1 else l - 1
theorem op_i : ∀ l : Nat, l < 420 → (Int32.ofNat l ^^^ 1).toInt = (opN l : Int) := by decide +kernel
theorem opN_2 {l : Nat} : opN l / 2 = l / 2 ∧ opN (opN l) = l ∧ opN l < 2 * (l / 2) + 2 ∧ (2 ≤ l → 2 ≤ opN l) ∧ ¬ opN l = l := by
  unfold opN
  by_cases h : l % 2 = 0
  · rw [if_pos h, if_neg (by omega)]; omega
  · rw [if_neg h, if_pos (by omega)]; omega
def isV (fa : Nat → Int32) (i : Nat) : Bool := decide ((fa (4 * i + 2)).toInt = 1) && decide ((fa (4 * i + 3)).toInt = 1)
def qkR (fa : Nat → Int32) (i j : Nat) : Bool := decide ((fa (4 * i + 1)).toInt < (fa (4 * j + 1)).toInt) || (decide ((fa (4 * i + 1)).toInt = (fa (4 * j + 1)).toInt) && decide ((fa (4 * i)).toInt < (fa (4 * j)).toInt))
def ivN (fa : Nat → Int32) : Nat → Option Nat
  | 0 => none
  | k + 1 => if isV fa k = true then (ivN fa k).elim (some k) (fun j => if qkR fa k j = true then some k else some j) else ivN fa k
theorem ivN_l {fa : Nat → Int32} {j : Nat} : ∀ {k : Nat}, ivN fa k = some j → j < k ∧ isV fa j = true
  | 0, h => by cases h
  | k + 1, h => by
    have h : (if isV fa k = true then (ivN fa k).elim (some k) (fun j => if qkR fa k j = true then some k else some j) else ivN fa k) = some j := h
    by_cases v : isV fa k = true
    · rw [if_pos v] at h
      cases e : ivN fa k with
      | none =>
        rw [e] at h
        have h : some k = some j := h
        have := Option.some.inj h
        exact ⟨by omega, by rw [← this]; exact v⟩
      | some i =>
        rw [e] at h
        have h : (if qkR fa k i = true then some k else some i) = some j := h
        by_cases q : qkR fa k i = true
        · rw [if_pos q] at h
          have := Option.some.inj h
          exact ⟨by omega, by rw [← this]; exact v⟩
        · rw [if_neg q] at h
          have := ivN_l e
          have e2 := Option.some.inj h
          rw [← e2]; exact ⟨by omega, this.2⟩
    · rw [if_neg v] at h
      have := ivN_l h
      exact ⟨by omega, this.2⟩
def tnV (fa : Nat → Int32) (j t l : Nat) : Nat := cvV fa j t 1 (fun _ => opN l)
def pickN (u v : Nat) : Nat := if u / 2 ^ 34 < v / 2 ^ 34 then u else v
theorem pick_l {u v : Nat} (h : u / 2 ^ 34 < v / 2 ^ 34) : pickN u v = u := by unfold pickN; rw [if_pos h]
theorem pick_g {u v : Nat} (h : ¬ u / 2 ^ 34 < v / 2 ^ 34) : pickN u v = v := by unfold pickN; rw [if_neg h]
def mkW (fa : Nat → Int32) (v : Nat) (op : Option Nat) (k l : Nat) : Nat := (op.bind (fun t => (ivN fa k).map (fun j => tnV fa j t l))).elim v (fun u => pickN u v)
theorem mkW_n {fa : Nat → Int32} {v k l : Nat} : mkW fa v none k l = v := rfl
theorem mkW_0 {fa : Nat → Int32} {v t k l : Nat} (e : ivN fa k = none) : mkW fa v (some t) k l = v := by unfold mkW; rw [e]; rfl
theorem el_1 {v t j : Nat} {f p : Nat → Nat → Nat} : ((some t).bind (fun t => (some j).map (fun j => f j t))).elim v (fun u => p u v) = p (f j t) v := rfl
theorem mkW_1 {fa : Nat → Int32} {v t k l j : Nat} (e : ivN fa k = some j) : mkW fa v (some t) k l = pickN (tnV fa j t l) v := by
  unfold mkW
  rw [e]
  exact el_1 (f := fun j t => tnV fa j t l) (p := pickN)
theorem tnV_e {fa : Nat → Int32} {j t l : Nat} : tnV fa j t l = (t + (fa (4 * j + 1)).toInt.toNat) * 2 ^ 44 + (fa (4 * j)).toInt.toNat * 2 ^ 34 + j * 2 ^ 30 + opN l * 2 ^ 20 := by
  unfold tnV cvV pnS
  rw [if_pos (by decide), if_neg (by decide), if_neg (by decide)]
  show (t + (fa (4 * j + 1)).toInt.toNat) * 2 ^ 44 + (fa (4 * j)).toInt.toNat * 2 ^ 34 + j * 2 ^ 30 + (opN l * 2 ^ 20 + 0 * 2 ^ 10 + 0) = _
  omega
theorem tnV_d {fa : Nat → Int32} {c j t l : Nat} (hF : FcQ c fa) (hj : j < c) (hl : l < 418) : tnV fa j t l / 2 ^ 34 = (t + (fa (4 * j + 1)).toInt.toNat) * 1024 + (fa (4 * j)).toInt.toNat := by
  have F := hF.2 j hj
  have c12 := hF.1
  have o := (opN_2 (l := l)).2.2.1
  rw [tnV_e]
  omega
theorem qk_t {fa : Nat → Int32} {c i j t l : Nat} (hF : FcQ c fa) (hi : i < c) (hj : j < c) (hl : l < 418) : qkR fa i j = true ↔ tnV fa i t l / 2 ^ 34 < tnV fa j t l / 2 ^ 34 := by
  rw [tnV_d hF hi hl, tnV_d hF hj hl]
  have F1 := hF.2 i hi
  have F2 := hF.2 j hj
  unfold qkR
  rw [Bool.or_eq_true, Bool.and_eq_true, decide_eq_true_iff, decide_eq_true_iff, decide_eq_true_iff]
  omega
theorem ivN_s {fa : Nat → Int32} {k : Nat} (hv : isV fa k = true) : ivN fa (k + 1) = (ivN fa k).elim (some k) (fun j => if qkR fa k j = true then some k else some j) := by
  show (if isV fa k = true then (ivN fa k).elim (some k) (fun j => if qkR fa k j = true then some k else some j) else ivN fa k) = _
  rw [if_pos hv]
theorem mkW_s {fa : Nat → Int32} {c v t k l : Nat} (hF : FcQ c fa) (hk : k < c) (hl : l < 418) (hv : isV fa k = true) : mkW fa v (some t) (k + 1) l = pickN (tnV fa k t l) (mkW fa v (some t) k l) := by
  have e2 := ivN_s hv
  cases e : ivN fa k with
  | none =>
    rw [e] at e2
    rw [mkW_0 e, mkW_1 (show ivN fa (k + 1) = some k from e2)]
  | some j =>
    rw [e] at e2
    have e2 : ivN fa (k + 1) = (if qkR fa k j = true then some k else some j) := e2
    have jl := (ivN_l e).1
    have q := qk_t (t := t) hF hk (show j < c by omega) hl
    rw [mkW_1 e]
    by_cases z : qkR fa k j = true
    · rw [if_pos z] at e2
      rw [mkW_1 e2]
      have z := q.mp z
      by_cases y : tnV fa j t l / 2 ^ 34 < v / 2 ^ 34
      · rw [pick_l y, pick_l z, pick_l (Nat.lt_trans z y)]
      · rw [pick_g y]
    · rw [if_neg z] at e2
      have z : ¬ tnV fa k t l / 2 ^ 34 < tnV fa j t l / 2 ^ 34 := fun w => z (q.mpr w)
      rw [mkW_1 e2]
      by_cases y : tnV fa j t l / 2 ^ 34 < v / 2 ^ 34
      · rw [pick_l y, pick_g z]
      · rw [pick_g y, pick_g (fun w => z (Nat.lt_of_lt_of_le w (Nat.le_of_not_lt y)))]
theorem mkW_k {fa : Nat → Int32} {v k l : Nat} {op : Option Nat} (hv : ¬ isV fa k = true) : mkW fa v op (k + 1) l = mkW fa v op k l := by
  have e2 : ivN fa (k + 1) = ivN fa k := by
    show (if isV fa k = true then _ else ivN fa k) = _
    rw [if_neg hv]
  unfold mkW
  rw [e2]
def MvQ (om : cf_O) (l c B T w : Nat) : Prop := (om.2.1 86 l = 0 ∧ w = NOM) ∨ (om.2.1 86 l = 1 ∧ MfQ (om.2.1 84) (om.2.1 87) (5 * l) c B T ∧ w = pkM (om.2.1 84) (om.2.1 87) (5 * l))
theorem MvQ_c {om om2 : cf_O} {l c B T v : Nat} (h : MvQ om l c B T v) (e8 : om2.2.1 86 l = om.2.1 86 l) (e4 : om2.2.1 84 = om.2.1 84) (e9 : ∀ k : Nat, k < 5 → om2.2.1 87 (5 * l + k) = om.2.1 87 (5 * l + k)) : MvQ om2 l c B T v := by
  unfold MvQ
  rw [e8, e4]
  rcases h with h | ⟨h1, h2, h3⟩
  · exact Or.inl h
  · obtain ⟨q1, q2⟩ := MfQ_c h2 e9
    exact Or.inr ⟨h1, q1, by rw [q2]; exact h3⟩
def Ot7 (OM om : cf_O) (l : Nat) : Prop := ∀ l' : Nat, ¬ l' = l → om.2.1 86 l' = OM.2.1 86 l' ∧ ∀ k : Nat, k < 5 → om.2.1 87 (5 * l' + k) = OM.2.1 87 (5 * l' + k)
theorem pk_34 {fa f : Nat → Int32} {a c B T : Nat} (h : MfQ fa f a c B T) (hA : ArQ c fa) (hB : B ≤ 420) : pkM fa f a / 2 ^ 34 = (f a).toInt.toNat * 1024 + (fa (4 * (f (a + 1)).toInt.toNat)).toInt.toNat ∧ pkM fa f a / 2 ^ 44 = (f a).toInt.toNat := by
  obtain ⟨c1, s1, ⟨h1, h1'⟩, ⟨h2, h2'⟩, h3, h4⟩ := h
  have A1 := hA.2 c1 h1
  have c12 := hA.1
  have bd3 : ∀ (x : Int) (s k : Nat), ((k < s → 0 ≤ x ∧ x < (B : Int)) ∧ (s ≤ k → x = -1)) → x.toNat < 1024 := fun x s k h => by
    by_cases z : k < s
    · have := h.1 z; omega
    · have := h.2 (by omega); omega
  have f0 : (f (a + 2)).toInt.toNat < 1024 := bd3 _ _ _ (h4 0 (by decide))
  have f1 : (f (a + 3)).toInt.toNat < 1024 := bd3 _ _ _ (h4 1 (by decide))
  have f2 : (f (a + 4)).toInt.toNat < 1024 := bd3 _ _ _ (h4 2 (by decide))
  unfold pkM
  rw [show (f (a + 1)).toInt.toNat = c1 by omega]
  omega
theorem mi_go {b n l c B T v t : Nat} {gr OM : cf_O} {v1 v4 : Int32} (R : RGq b n gr OM) (hF : FcQ c (OM.2.1 84)) (e82 : (OM.1 82).toInt = (c : Int)) (e1 : v1.toInt = (l : Int)) (hl : l < 418) (e4 : v4.toInt = (t : Int)) (hB : opN l < B) (hB4 : B ≤ 418) (ht : t + 99 ≤ T) (hT : T ≤ 50000) : ∀ (fu k : Nat) (w2 v5 : Int32) (om r : cf_O), v5.toInt = (k : Int) → k ≤ c → Fr (fr_M [] [86, 87, 90] []) OM om → Ot7 OM om l → MvQ om l c B T (mkW (OM.2.1 84) v (some t) k l) → gM_make fu 1 v1 w2 1 v4 v5 om = some r → MvQ r l c B T (mkW (OM.2.1 84) v (some t) c l) ∧ Ot7 OM r l
  | 0, k, w2, v5, om, r, e5, hk, fo, ot, V, h => by cases h
  | fu + 1, k, w2, v5, om, r, e5, hk, fo, ot, V, h => by
    have h : fM_make_106 (gM_make fu) v1 1 v4 v5 om = some r := h
    unfold fM_make_106 at h
    rw [fo.1 82 rfl] at h
    have c12 := hF.1
    rcases ifc h with ⟨a, h⟩ | ⟨a, h⟩
    · have a := c_le a
      unfold fM_make_308 at h
      rw [← Option.some.inj h, show c = k by omega]
      rw [show k = c by omega] at V
      exact ⟨by rw [show k = c by omega]; exact V, ot⟩
    · have a := c_nle a
      rw [if_neg (show ¬ (1 : Int32) = 0 by decide)] at h
      have p5 := pW (v := v5) (by omega) (by omega)
      have m4 := mul4 e5 (show k < 100000 by omega)
      have e84 : om.2.1 84 = OM.2.1 84 := fo.2.1 84 rfl
      have F := hF.2 k (by omega)
      have skip : ∀ q : cf_O, Fr (fr_M [] [86, 87, 90] []) OM q → Ot7 OM q l → MvQ q l c B T (mkW (OM.2.1 84) v (some t) (k + 1) l) → fM_make_302 (gM_make fu) v1 1 v4 v5 q = some r → MvQ r l c B T (mkW (OM.2.1 84) v (some t) c l) ∧ Ot7 OM r l := fun q fq oq Vq z => by
        unfold fM_make_302 at z
        rw [opk] at z
        exact mi_go R hF e82 e1 hl e4 hB hB4 ht hT fu (k + 1) 0 (v5 + 1) q r (by omega) (by omega) fq oq Vq z
      rw [opk, opk, tW (addk (k := 2) m4 rfl (by omega) (by decide))] at h
      have h := (ifn h).2
      rw [opk, e84] at h
      rcases ifc h with ⟨y1, h⟩ | ⟨y1, h⟩
      case inr =>
        refine skip om fo ot ?_ h
        rw [mkW_k (fun z => y1 (Int32.toInt_inj.mp (of_decide_eq_true (Bool.and_eq_true _ _ ▸ z : _ ∧ _).1)))]
        exact V
      rw [opk, opk, tW (addk (k := 3) m4 rfl (by omega) (by decide))] at h
      have h := (ifn h).2
      rw [opk] at h
      rcases ifc h with ⟨y2, h⟩ | ⟨y2, h⟩
      case inr =>
        refine skip om fo ot ?_ h
        rw [mkW_k (fun z => y2 (Int32.toInt_inj.mp (of_decide_eq_true (Bool.and_eq_true _ _ ▸ z : _ ∧ _).2)))]
        exact V
      have iv : isV (OM.2.1 84) k = true := by
        unfold isV
        rw [y1, y2]; rfl
      rw [opk, opk, tW (addk (k := 1) m4 rfl (by omega) (by decide))] at h
      have h := (ifn h).2
      have m5 := mul5 e1 (show l < 100000 by omega)
      rw [opk, opk, opk] at h
      have h := (ifn h).2
      rw [opk, tW e1] at h
      have et : (v4 + OM.2.1 84 (4 * k + 1)).toInt = ((t + (OM.2.1 84 (4 * k + 1)).toInt.toNat : Nat) : Int) := by rw [i_add (by omega) (by omega)]; omega
      generalize v4 + OM.2.1 84 (4 * k + 1) = x17 at h et
      have td := tnV_d (t := t) hF (show k < c by omega) hl
      have ms := mkW_s (v := v) (t := t) hF (show k < c by omega) hl iv
      have worse : ¬ tnV (OM.2.1 84) k t l / 2 ^ 34 < mkW (OM.2.1 84) v (some t) k l / 2 ^ 34 → fM_make_238 (gM_make fu) v1 1 v4 v5 x17 (5 * v1) om = some r → MvQ r l c B T (mkW (OM.2.1 84) v (some t) c l) ∧ Ot7 OM r l := fun nb z => by
        unfold fM_make_238 fM_make_239 at z
        rw [if_pos rfl] at z
        refine skip om fo ot ?_ z
        rw [ms, pick_g nb]; exact V
      have better : tnV (OM.2.1 84) k t l / 2 ^ 34 < mkW (OM.2.1 84) v (some t) k l / 2 ^ 34 → fM_make_234 (gM_make fu) v1 1 v4 v5 x17 (5 * v1) om = some r → MvQ r l c B T (mkW (OM.2.1 84) v (some t) c l) ∧ Ot7 OM r l := fun be z => by
        unfold fM_make_234 fM_make_239 at z
        rw [if_neg (by decide)] at z
        have z := (ifn z).2
        rw [opk, tW e1, vb_1] at z
        have z := (ifn z).2
        rw [opk] at z
        have z := (ifn z).2
        rw [opk, opk] at z
        have z := (ifn z).2
        rw [opk] at z
        have z := (ifn z).2
        rw [opk] at z
        have z := (ifn z).2
        rw [opk] at z
        obtain ⟨q, hq, z⟩ := bd z
        have ex : (v1 ^^^ 1).toInt = (opN l : Int) := by
          have := op_i l (by omega)
          rw [← on_i e1] at this; exact this
        generalize v1 ^^^ 1 = x8 at hq ex
        obtain ⟨k1, k2⟩ := km7_sp (l := l) (by omega) m5 hq
        have fr := wF_M_keepMatch_M87 hq
        have fq : Fr (fr_M [] [86, 87, 90] []) OM q := fr_tr (fr_xp (fr_xp (fr_xp (fr_xp (fr_xp (fr_xp fo rfl) rfl) rfl) rfl) rfl) rfl) fr rfl rfl rfl
        have q4 : q.2.1 84 = OM.2.1 84 := fq.2.1 84 rfl
        have q6 : q.2.1 86 = upd (om.2.1 86) l 1 := fr.2.1 86 rfl
        have d0 : q.2.1 87 (5 * l) = x17 := k1 0 (by decide)
        have d1 : q.2.1 87 (5 * l + 1) = v5 := k1 1 (by decide)
        have d2 : q.2.1 87 (5 * l + 2) = x8 := k1 2 (by decide)
        have d3 : q.2.1 87 (5 * l + 3) = -1 := k1 3 (by decide)
        have d4 : q.2.1 87 (5 * l + 4) = -1 := k1 4 (by decide)
        refine skip q fq (fun l' hl' => ⟨by rw [q6, up_o hl']; exact (ot l' hl').1, fun k hk => by rw [k2 (5 * l' + k) (by omega)]; exact (ot l' hl').2 k hk⟩) ?_ z
        rw [ms, pick_l be]
        refine Or.inr ⟨by rw [q6]; exact up_s _ _ _, ?_, ?_⟩
        · refine ⟨k, 1, ⟨by omega, by rw [d1]; exact e5⟩, ⟨by rw [q4, y1]; rfl, by decide⟩, by rw [d0]; omega, fun j hj => ?_⟩
          rcases (show j = 0 ∨ j = 1 ∨ j = 2 by omega) with e | e | e
          · subst e
            refine ⟨fun _ => ?_, fun z => absurd z (by decide)⟩
            show 0 ≤ (q.2.1 87 (5 * l + 2)).toInt ∧ (q.2.1 87 (5 * l + 2)).toInt < (B : Int)
            rw [d2]; omega
          · subst e
            refine ⟨fun z => absurd z (by decide), fun _ => ?_⟩
            show (q.2.1 87 (5 * l + 3)).toInt = -1
            rw [d3]; rfl
          · subst e
            refine ⟨fun z => absurd z (by decide), fun _ => ?_⟩
            show (q.2.1 87 (5 * l + 4)).toInt = -1
            rw [d4]; rfl
        · rw [tnV_e]
          unfold pkM
          rw [d0, d1, d2, d3, d4, q4, et, e5, ex, show (((t + (OM.2.1 84 (4 * k + 1)).toInt.toNat : Nat) : Int)).toNat = t + (OM.2.1 84 (4 * k + 1)).toInt.toNat from rfl, show ((k : Int)).toNat = k from rfl, show ((opN l : Int)).toNat = opN l from rfl, show ((-1 : Int32)).toInt.toNat = 0 from rfl]
          generalize t + (OM.2.1 84 (4 * k + 1)).toInt.toNat = z1
          generalize (OM.2.1 84 (4 * k)).toInt.toNat = z2
          omega
      rcases V with ⟨z1, z2⟩ | ⟨z1, z2, z3⟩
      · rw [z1, if_pos rfl] at h
        refine better ?_ h
        rw [z2, td]
        unfold NOM
        omega
      · rw [z1, if_neg (by decide)] at h
        obtain ⟨p1, _⟩ := pk_34 z2 (by rw [e84]; exact FcQ_a hF) (by omega)
        rw [← z3, e84] at p1
        have Z := z2
        obtain ⟨c1, s1, ⟨h1, h1'⟩, ⟨h2, h2'⟩, h3, h4⟩ := z2
        have A1 := (FcQ_a hF).2 c1 h1
        rw [show (om.2.1 87 (5 * l + 1)).toInt.toNat = c1 by omega] at p1
        have h := (ifn h).2
        rw [opk, tW m5] at h
        rcases ifc h with ⟨b1, h⟩ | ⟨b1, h⟩
        · have b1 := c_lt b1
          refine better ?_ h
          rw [p1, td]; omega
        · have b1 := c_nlt b1
          have h := (ifn h).2
          rw [opk] at h
          rcases ifc h with ⟨b2, h⟩ | ⟨b2, h⟩
          · have b2 := c_eq b2
            rw [opk, tW m4] at h
            have h := (ifn h).2
            rw [opk, opk, tW (addk (k := 1) m5 rfl (by omega) (by decide))] at h
            have h := (ifn h).2
            rw [opk, opk, tW (mul4 h1' (by omega))] at h
            have h := (ifn h).2
            rw [opk] at h
            rcases ifc h with ⟨b3, h⟩ | ⟨b3, h⟩
            · have b3 := c_le b3
              refine worse ?_ h
              rw [p1, td]; omega
            · have b3 := c_nle b3
              refine better ?_ h
              rw [p1, td]; omega
          · have b2 : ¬ x17.toInt = (om.2.1 87 (5 * l)).toInt := fun q => b2 (Int32.toInt_inj.mp q)
            refine worse ?_ h
            rw [p1, td]; omega
