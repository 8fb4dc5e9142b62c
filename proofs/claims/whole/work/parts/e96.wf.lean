theorem fi3_go {v : Int32} : ∀ (fuel : Nat) (v2 : Int32) (o r : cf_O), 0 ≤ v2.toInt → v2.toInt ≤ 209 → (∀ j : Nat, (j : Int) < v2.toInt → o.2.1 3 j = v) → gJArrays_fill_AII_Co3 fuel 0 v v2 209 o = some r → Fr (fr_M [] [3] []) o r ∧ ∀ j : Nat, j < 209 → r.2.1 3 j = v
  | 0, v2, o, r, h0, h1, hz, h => by cases h
  | fuel + 1, v2, o, r, h0, h1, hz, h => by
    rcases ifc h with ⟨a, h⟩ | ⟨a, h⟩
    · have a : (209 : Int) ≤ v2.toInt := c_le a
      rw [← Option.some.inj h]
      exact ⟨fr_rfl, fun j hj => hz j (by omega)⟩
    · have a : v2.toInt < 209 := c_nle a
      have vi : v2.toNatClampNeg = v2.toInt.toNat := by have := tn_n v2; omega
      have e2 := p_1 (v := v2) h0 (by omega)
      have h := (ifn h).2
      rw [vi] at h
      have hz' : ∀ j : Nat, (j : Int) < (v2 + 1).toInt → (xp o 3 v2.toInt.toNat v).2.1 3 j = v := fun j hj => by
        show upd (o.2.1 3) v2.toInt.toNat v j = v
        by_cases e : j = v2.toInt.toNat
        · rw [e, up_s]
        · rw [up_o e]; exact hz j (by omega)
      obtain ⟨f, q⟩ := fi3_go fuel (v2 + 1) (xp o 3 v2.toInt.toNat v) r (by omega) (by omega) hz' h
      exact ⟨fr_tr (fr_xp fr_rfl rfl) f rfl rfl rfl, q⟩
theorem sd_lt {C : List Int} {j k : Nat} {a c : Int} (h : Sd C) (hjk : j < k) (ha : C[j]? = some a) (hc : C[k]? = some c) : a < c := by
  obtain ⟨j1, j2⟩ := List.getElem?_eq_some_iff.mp ha
  obtain ⟨k1, k2⟩ := List.getElem?_eq_some_iff.mp hc
  have := List.pairwise_iff_getElem.mp h j k j1 k1 hjk
  rw [j2, k2] at this; exact this
def TcQ (C : List Int) (k : Nat) (o : cf_O) : Prop := (∀ j x : Nat, j < k → C[j]? = some (x : Int) → (o.2.1 2 j).toInt = (x : Int) ∧ o.2.1 4 x = cf_patterns j) ∧ ∀ x : Nat, x < 209 → ((x : Int) ∈ C.take k ∧ o.2.1 3 x = 2) ∨ (¬ (x : Int) ∈ C.take k ∧ o.2.1 3 x = 0)
theorem TcQ_s {C : List Int} {k x : Nat} {o : cf_O} {nd : Int32} (hC : Sd C) (h : TcQ C k o) (hx : C[k]? = some (x : Int)) (en : nd.toInt = (x : Int)) : TcQ C (k + 1) (xp (xp (xp o 2 k nd) 3 x 2) 4 x (cf_patterns k)) := by
  refine ⟨fun j y hj hy => ?_, fun y hy => ?_⟩
  · show (upd (o.2.1 2) k nd j).toInt = (y : Int) ∧ upd (o.2.1 4) x (cf_patterns k) y = cf_patterns j
    by_cases e : j = k
    · subst e
      have exy : (x : Int) = (y : Int) := Option.some.inj (hx.symm.trans hy)
      have exy : y = x := by omega
      rw [exy, up_s, up_s]; exact ⟨en, rfl⟩
    · have q := h.1 j y (by omega) hy
      have l := sd_lt hC (show j < k by omega) hy hx
      rw [up_o e, up_o (by omega)]; exact q
  · have tk : (y : Int) ∈ C.take (k + 1) ↔ ((y : Int) ∈ C.take k ∨ y = x) := by
      rw [List.take_succ, hx, List.mem_append]
      show ((y : Int) ∈ C.take k ∨ (y : Int) ∈ [(x : Int)]) ↔ _
      rw [List.mem_singleton]
      constructor
      · rintro (q | q)
        · exact Or.inl q
        · exact Or.inr (by omega)
      · rintro (q | q)
        · exact Or.inl q
        · exact Or.inr (by omega)
    rw [tk]
    show _ ∧ upd (o.2.1 3) x 2 y = 2 ∨ _ ∧ upd (o.2.1 3) x 2 y = 0
    by_cases e : y = x
    · rw [e, up_s]; exact Or.inl ⟨Or.inr rfl, rfl⟩
    · rw [up_o e]
      rcases h.2 y hy with ⟨q1, q2⟩ | ⟨q1, q2⟩
      · exact Or.inl ⟨Or.inl q1, q2⟩
      · exact Or.inr ⟨fun z => z.elim q1 e, q2⟩
theorem tc_go {v : Int64} {l : List Nat} {g : Nat} {O : cf_O} (hv : nv v = enc l) (f : Fall g l) (hg : g ≤ 209) (h5 : l.length ≤ 5) : ∀ (fu k : Nat) (v3 : Int32) (o r : cf_O), v3.toInt = (k : Int) → k ≤ l.length → (o.1 0).toInt = (l.length : Int) → Fr (fr_M [0] [2, 3, 4] []) O o → TcQ (upL l) k o → gCo_takeCut fu 0 v v3 o = some r → (r.1 0).toInt = (l.length : Int) ∧ Fr (fr_M [0] [2, 3, 4] []) O r ∧ TcQ (upL l) l.length r
  | 0, k, v3, o, r, e3, hk, e0, fr, T, h => by cases h
  | fu + 1, k, v3, o, r, e3, hk, e0, fr, T, h => by
    have h : fCo_takeCut_18 (gCo_takeCut fu) v v3 o = some r := h
    unfold fCo_takeCut_18 at h
    rcases ifc h with ⟨a, h⟩ | ⟨a, h⟩
    · have a := c_le a
      have ek : k = l.length := by omega
      rw [← Option.some.inj h, ← ek]
      rw [← ek] at e0
      exact ⟨e0, fr, T⟩
    · have a := c_nle a
      rw [opk, opk, opk, opk, opk, opk] at h
      have w1 : (o.1 0 - 1).toInt = (o.1 0).toInt - 1 := i_sub' (by omega) (by omega) (by decide) (by decide)
      have w2 : (o.1 0 - 1 - v3).toInt = (o.1 0).toInt - 1 - v3.toInt := by rw [i_sub' (by omega) (by omega) (by omega) (by omega), w1]
      have w3 : (8 * (o.1 0 - 1 - v3)).toInt = 8 * ((l.length - 1 - k : Nat) : Int) := by
        rw [Int32.toInt_mul, w2, show (8 : Int32).toInt = 8 from rfl, i_bm (by omega) (by omega)]; omega
      obtain ⟨x, x1, x2, x3, ex⟩ := node_q (k := k) hv f hg (by omega) h5 w3
      generalize ((v.toUInt64 >>> ((8 * (o.1 0 - 1 - v3)).toInt64.toUInt64 &&& Int64.toUInt64 63)).toInt64 &&& 255).toInt32 = nd at h ex
      have h := (ifn h).2
      rw [opk] at h
      have h := (ifn h).2
      rw [opk] at h
      have h := (ifn h).2
      rw [opk] at h
      have h := (ifn h).2
      rw [opk, opk, tW e3, tW ex] at h
      exact tc_go hv f hg h5 fu (k + 1) (v3 + 1) (xp (xp (xp o 2 k nd) 3 x 2) 4 x (cf_patterns k)) r (by rw [pW (by omega) (by omega)]; omega) (by omega) e0 (fr_xp (fr_xp (fr_xp fr rfl) rfl) rfl) (TcQ_s (up_sd f) T x1 ex) h
theorem tcut_sp {v : Int64} {l : List Nat} {g : Nat} {o r : cf_O} (hv : nv v = enc l) (f : Fall g l) (hg : g ≤ 209) (h1 : 1 ≤ l.length) (h5 : l.length ≤ 5) (h : fCo_takeCut v o = some r) : (r.1 0).toInt = (l.length : Int) ∧ Fr (fr_M [0] [2, 3, 4] []) o r ∧ TcQ (upL l) l.length r := by
  unfold fCo_takeCut fCo_takeCut_0 at h
  obtain ⟨q, hq, h⟩ := bd h
  obtain ⟨s, hs, h⟩ := bd h
  rw [opk] at h
  have hq : gJArrays_fill_AII_Co3 cfFU 0 0 0 209 o = some q := hq
  obtain ⟨f1, f2⟩ := fi3_go cfFU 0 o q (by decide) (by decide) (fun j hj => absurd hj (by rw [show (0 : Int32).toInt = 0 from rfl]; omega)) hq
  have es := sizeOf_sp h1 h5 (by rw [hv]; exact enc_ge f (fun z => by rw [z] at h1; exact absurd h1 (by decide))) (by rw [hv]; exact enc_lt f (by omega)) hs
  exact tc_go hv f hg h5 cfFU 0 0 (fp q 0 s) r rfl (Nat.zero_le _) es (fr_fp (fr_tr fr_rfl f1 rfl rfl rfl) rfl) ⟨fun j x hj => absurd hj (by omega), fun x hx => Or.inr ⟨by rw [List.take_zero]; exact List.not_mem_nil, f2 x hx⟩⟩ h
def Rch (gr : cf_O) (g m : Nat) (sd : Nat → Int32) (k : Nat) : Prop := k = g ∨ ∃ p : Nat, k < p ∧ m < p ∧ p ≤ g ∧ sd p = 1 ∧ chd gr p k
def DnQ (gr : cf_O) (C : List Int) (g m : Nat) (sd : Nat → Int32) : Prop := ∀ k : Nat, k < 209 → ((k : Int) ∈ C ∧ sd k = 2) ∨ (¬ (k : Int) ∈ C ∧ ((sd k = 1 ∧ Rch gr g m sd k) ∨ (sd k = 0 ∧ ¬ Rch gr g m sd k)))
def rcs (sd : Nat → Int32) (x : Nat) : Nat → Int32 := if sd x = 0 then upd sd x 1 else sd
theorem rcs_o {sd : Nat → Int32} {x k : Nat} (h : ¬ k = x) : rcs sd x k = sd k := by
  unfold rcs
  by_cases c : sd x = 0
  · rw [if_pos c, up_o h]
  · rw [if_neg c]
theorem rcs_n {sd : Nat → Int32} {x k : Nat} (h : ¬ sd k = 0) : rcs sd x k = sd k := by
  by_cases e : k = x
  · subst e
    unfold rcs
    rw [if_neg h]
  · exact rcs_o e
theorem rcs_z {sd : Nat → Int32} {x : Nat} (h : sd x = 0) : rcs sd x x = 1 := by
  unfold rcs
  rw [if_pos h, up_s]
theorem DnQ_s {gr : cf_O} {C : List Int} {g m x y : Nat} {sd : Nat → Int32} (h : DnQ gr C g (m + 1) sd) (m1 : sd (m + 1) = 1) (hm : m + 1 ≤ g) (ex : x = (gr.2.1 4 (m + 1)).toInt.toNat / 2) (ey : y = (gr.2.1 5 (m + 1)).toInt.toNat / 2) (xm : x < m + 1) (ym : y < m + 1) : DnQ gr C g m (rcs (rcs sd x) y) := fun k hk => by
  have sp : ∀ p : Nat, m < p → rcs (rcs sd x) y p = sd p := fun p hp => by rw [rcs_o (by omega), rcs_o (by omega)]
  have R1 : ∀ j : Nat, Rch gr g (m + 1) sd j → Rch gr g m (rcs (rcs sd x) y) j := fun j q => by
    rcases q with q | ⟨p, p1, p2, p3, p4, p5⟩
    · exact Or.inl q
    · exact Or.inr ⟨p, p1, by omega, p3, by rw [sp p (by omega)]; exact p4, p5⟩
  have R2 : ∀ j : Nat, (j = x ∨ j = y) → Rch gr g m (rcs (rcs sd x) y) j := fun j q => by
    refine Or.inr ⟨m + 1, ?_, by omega, hm, by rw [sp _ (by omega)]; exact m1, ?_⟩
    · rcases q with q | q <;> omega
    · rcases q with q | q
      · exact Or.inl (q.trans ex)
      · exact Or.inr (q.trans ey)
  have R3 : ∀ j : Nat, Rch gr g m (rcs (rcs sd x) y) j → Rch gr g (m + 1) sd j ∨ j = x ∨ j = y := fun j q => by
    rcases q with q | ⟨p, p1, p2, p3, p4, p5⟩
    · exact Or.inl (Or.inl q)
    · rw [sp p p2] at p4
      by_cases e : p = m + 1
      · rw [e] at p5
        rcases p5 with z | z
        · exact Or.inr (Or.inl (z.trans ex.symm))
        · exact Or.inr (Or.inr (z.trans ey.symm))
      · exact Or.inl (Or.inr ⟨p, p1, by omega, p3, p4, p5⟩)
  rcases h k hk with ⟨a, c⟩ | ⟨a, ⟨c, d⟩ | ⟨c, d⟩⟩
  · have n1 : ¬ sd k = 0 := by rw [c]; decide
    have e1 : rcs sd x k = sd k := rcs_n n1
    exact Or.inl ⟨a, by rw [rcs_n (by rw [e1]; exact n1), e1]; exact c⟩
  · have n1 : ¬ sd k = 0 := by rw [c]; decide
    have e1 : rcs sd x k = sd k := rcs_n n1
    exact Or.inr ⟨a, Or.inl ⟨by rw [rcs_n (by rw [e1]; exact n1), e1]; exact c, R1 k d⟩⟩
  · by_cases kx : k = x
    · refine Or.inr ⟨a, Or.inl ⟨?_, R2 k (Or.inl kx)⟩⟩
      have e1 : rcs sd x k = 1 := by rw [kx]; rw [kx] at c; exact rcs_z c
      rw [rcs_n (by rw [e1]; decide), e1]
    · have e1 : rcs sd x k = sd k := rcs_o kx
      by_cases ky : k = y
      · refine Or.inr ⟨a, Or.inl ⟨?_, R2 k (Or.inr ky)⟩⟩
        rw [← ky]
        exact rcs_z (by rw [e1]; exact c)
      · refine Or.inr ⟨a, Or.inr ⟨by rw [rcs_o ky, e1]; exact c, fun q => ?_⟩⟩
        rcases R3 k q with z | z | z
        · exact d z
        · exact kx z
        · exact ky z
theorem DnQ_n {gr : cf_O} {C : List Int} {g m : Nat} {sd : Nat → Int32} (h : DnQ gr C g (m + 1) sd) (m1 : ¬ sd (m + 1) = 1) : DnQ gr C g m sd := fun k hk => by
  have R : ∀ j : Nat, Rch gr g (m + 1) sd j ↔ Rch gr g m sd j := fun j => by
    constructor
    · rintro (q | ⟨p, p1, p2, p3, p4, p5⟩)
      · exact Or.inl q
      · exact Or.inr ⟨p, p1, by omega, p3, p4, p5⟩
    · rintro (q | ⟨p, p1, p2, p3, p4, p5⟩)
      · exact Or.inl q
      · by_cases e : p = m + 1
        · rw [e] at p4; exact absurd p4 m1
        · exact Or.inr ⟨p, p1, by omega, p3, p4, p5⟩
  rw [← R k]; exact h k hk
theorem DnQ_c {b n g m : Nat} {gr : cf_O} {C : List Int} {sd : Nat → Int32} (G : GW b n gr) (hg : g < b + n) (hc : CvG b gr C g) (gC : ¬ (g : Int) ∈ C) (h : DnQ gr C g m sd) : ∀ d k : Nat, g < k + d → k < 209 → sd k = 1 → CvG b gr C k ∧ k ≤ g ∧ ¬ (k : Int) ∈ C
  | 0, k, e, hk, q => by
    rcases h k hk with ⟨_, c⟩ | ⟨_, ⟨_, c | ⟨p, p1, p2, p3, _⟩⟩ | ⟨c, _⟩⟩
    · rw [q] at c; exact absurd c (by decide)
    · omega
    · omega
    · rw [q] at c; exact absurd c (by decide)
  | d + 1, k, e, hk, q => by
    have G0 := G.1
    rcases h k hk with ⟨_, c⟩ | ⟨kC, ⟨_, c | ⟨p, p1, p2, p3, p4, p5⟩⟩ | ⟨c, _⟩⟩
    · rw [q] at c; exact absurd c (by decide)
    · subst c; exact ⟨hc, Nat.le_refl _, gC⟩
    · obtain ⟨i1, i2, i3⟩ := DnQ_c G hg hc gC h d p (by omega) (by omega) p4
      have c := Cv_g G (by omega) i1 i3
      refine ⟨?_, by omega, kC⟩
      rcases p5 with z | z
      · rw [z]; exact c.2.1
      · rw [z]; exact c.2.2
    · rw [q] at c; exact absurd c (by decide)
theorem reach_sp {x : Nat} {v : Int32} {o r : cf_O} (hv : v.toNatClampNeg = x) (h : fCo_reach v o = some r) : Fr (fr_M [] [3] []) o r ∧ r.2.1 3 = rcs (o.2.1 3) x := by
  unfold fCo_reach fCo_reach_0 at h
  have h := (ifn h).2
  rw [opk, hv] at h
  rcases ifc h with ⟨a, h⟩ | ⟨a, h⟩
  · have h := (ifn h).2
    rw [opk] at h
    rw [← Option.some.inj h]
    refine ⟨fr_xp fr_rfl rfl, ?_⟩
    show upd (o.2.1 3) x 1 = _
    unfold rcs
    rw [if_pos a]
  · rw [← Option.some.inj h]
    refine ⟨fr_rfl, ?_⟩
    unfold rcs
    rw [if_neg a]
