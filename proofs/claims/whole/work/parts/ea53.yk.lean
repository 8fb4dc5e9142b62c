def MaX (b n c : Nat) (gr om : cf_O) : Prop := GW b n gr ∧ RGq b n gr om ∧ (∀ g : Nat, b ≤ g → g < b + n → (0 ≤ (om.2.1 57 g).toInt ∧ (om.2.1 57 g).toInt ≤ 300) ∧ ∀ j : Nat, (j : Int) < (om.2.1 57 g).toInt → (2 ≤ (cutL (om.2.1 59) (om.2.1 58) (301 * g + j)).length ∧ (cutL (om.2.1 59) (om.2.1 58) (301 * g + j)).length ≤ 3) ∧ Sd (cutL (om.2.1 59) (om.2.1 58) (301 * g + j)) ∧ ∀ z ∈ cutL (om.2.1 59) (om.2.1 58) (301 * g + j), 1 ≤ z ∧ z < (g : Int)) ∧ FcQ c (om.2.1 84) ∧ (om.1 82).toInt = (c : Int)
def CsR (om : cf_O) : Nat → List Int → Prop := fun g C => C ∈ rowL (om.2.1 57) (om.2.1 59) (om.2.1 58) g
theorem MaX_s {b n c : Nat} {gr om : cf_O} (h : MaX b n c gr om) : CsQ (CsR om) b (b + n) := fun g C g1 g2 hC => by
  obtain ⟨j, hj, e⟩ := row_m.mp hC
  subst e
  have q := (h.2.2.1 g g1 g2).2 j hj
  exact ⟨q.1, q.2.2⟩
theorem MaX_f {b n c : Nat} {gr om om2 : cf_O} (h : MaX b n c gr om) (f : Fr (fr_M [] [86, 87, 88, 89, 90, 91, 98] []) om om2) : MaX b n c gr om2 := by
  obtain ⟨h1, h2, h3, h4, h5⟩ := h
  unfold MaX
  rw [f.2.1 57 rfl, f.2.1 58 rfl, f.2.1 59 rfl, f.2.1 84 rfl, f.1 82 rfl]
  exact ⟨h1, RGq_f h2 (f.1 39 rfl) (f.1 40 rfl) (f.1 43 rfl) (f.2.1 44 rfl) (f.2.1 45 rfl) (f.2.1 46 rfl) (f.2.1 47 rfl), h3, h4, h5⟩
theorem gvB_e {b k : Nat} (h1 : 1 ≤ k) (h2 : k < b) : gvB b (2 * k) = true ∧ gvB b (2 * k + 1) = false := by
  unfold gvB
  exact ⟨decide_eq_true (by omega), decide_eq_false (by omega)⟩
theorem gvB_g {b l : Nat} (h : b ≤ l / 2) : gvB b l = false := by
  unfold gvB
  exact decide_eq_false (by omega)
def MkS (b n c m : Nat) (gr OM om : cf_O) (w : Nat → Nat) : Prop := Fr (fr_M [] [86, 87, 88, 89, 90, 91, 98] []) OM om ∧ RwQ b c m om w ∧ SwQ b n c m gr (OM.2.1 84) (CsR OM) w ∧ ∀ l : Nat, 2 * m ≤ l → l < 420 → om.2.1 88 l = 0
theorem ma_gate {b n c m : Nat} {gr OM om q1 q2 q3 : cf_O} {w : Nat → Nat} {v1 va vb : Int32} (X : MaX b n c gr OM) (S : MkS b n c m gr OM om w) (bm : b ≤ m) (hm : m < b + n) (e1 : v1.toInt = (m : Int)) (ea : va.toInt = ((2 * m : Nat) : Int)) (eb : vb.toInt = ((2 * m + 1 : Nat) : Int)) (h1 : fM_plainMatches v1 om = some q1) (h2 : fM_make va q1 = some q2) (h3 : fM_make vb q2 = some q3) : ∃ u : Nat → Nat, MkS b n c (m + 1) gr OM q3 u := by
  obtain ⟨fo, Rw, Sw, Z⟩ := S
  have X1 := MaX_f X fo
  obtain ⟨G, R, rows, hF, e82⟩ := X1
  have G0 := G.1
  have hC := MaX_s X
  have e84 : om.2.1 84 = OM.2.1 84 := fo.2.1 84 rfl
  have P : PlX b n m c (mtW w) gr om := ⟨G, R, ⟨bm, hm⟩, (rows m bm hm).1, (rows m bm hm).2, RwQ_t Rw (by omega) (FcQ_a hF), hF, e82⟩
  obtain ⟨V, ot⟩ := plain_sp P e1 (Z _ (by omega) (by omega)) (Z _ (by omega) (by omega)) h1
  have f1 := wF_M_plainMatches h1
  have f2 := wF_M_make h2
  have f3 := wF_M_make h3
  have fq1 : Fr (fr_M [] [86, 87, 88, 89, 90, 91, 98] []) OM q1 := fr_tr fo f1 rfl rfl rfl
  have fq2 : Fr (fr_M [] [86, 87, 88, 89, 90, 91, 98] []) OM q2 := fr_tr fq1 f2 rfl rfl rfl
  have fq3 : Fr (fr_M [] [86, 87, 88, 89, 90, 91, 98] []) OM q3 := fr_tr fq2 f3 rfl rfl rfl
  obtain ⟨_, Rq1, _, hF1, e821⟩ := MaX_f X fq1
  obtain ⟨_, Rq2, _, hF2, e822⟩ := MaX_f X fq2
  obtain ⟨v0, V0, N0⟩ := V (2 * m) (by omega)
  obtain ⟨v1', V1, N1⟩ := V (2 * m + 1) (by omega)
  have o0 : opN (2 * m) = 2 * m + 1 := by unfold opN; rw [if_pos (by omega)]
  have o1 : opN (2 * m + 1) = 2 * m := by unfold opN; rw [if_neg (by omega)]; omega
  obtain ⟨A1, A2⟩ := make_sp (B := 2 * m + 2) (T := 198 * m) Rq1 hF1 e821 ea (by omega) V0 (Or.inr ⟨by rw [o0]; exact gvB_g (by omega), by rw [o0]; exact V1⟩) (by omega) (by omega) (by omega) (by omega) (by omega) h2
  have V0' : RvQ q2 (2 * m) c (2 * m) (198 * m - 99) v0 := RvQ_c V0 (by rw [f2.2.1 88 rfl]) (f2.2.1 84 rfl) (fun k _ => by rw [f2.2.1 89 rfl])
  have V1' : RvQ q2 (2 * m + 1) c (2 * m) (198 * m - 99) v1' := RvQ_c V1 (by rw [f2.2.1 88 rfl]) (f2.2.1 84 rfl) (fun k _ => by rw [f2.2.1 89 rfl])
  obtain ⟨B1, B2⟩ := make_sp (B := 2 * m + 2) (T := 198 * m) Rq2 hF2 e822 eb (by omega) V1' (Or.inr ⟨by rw [o1]; exact gvB_g (by omega), by rw [o1]; exact V0'⟩) (by omega) (by omega) (by omega) (by omega) (by omega) h3
  rw [o0, gvB_g (show b ≤ (2 * m + 1) / 2 by omega), fq1.2.1 84 rfl] at A1
  rw [o1, gvB_g (show b ≤ (2 * m) / 2 by omega), fq2.2.1 84 rfl] at B1
  refine ⟨fun x => if x = 2 * m then mkW (OM.2.1 84) v0 (opO false v1') c (2 * m) else if x = 2 * m + 1 then mkW (OM.2.1 84) v1' (opO false v0) c (2 * m + 1) else w x, fq3, fun x x2 xm => ?_, ?_, fun l l1 l2 => ?_⟩
  · by_cases xo : x < 2 * m
    · have := RwQ_f Rw (om2 := q3) (fun y hy => ⟨by rw [(B2 y (by omega)).1, (A2 y (by omega)).1, f1.2.1 86 rfl], fun k hk => by rw [(B2 y (by omega)).2 k hk, (A2 y (by omega)).2 k hk, f1.2.1 87 rfl]⟩) (by rw [f3.2.1 84 rfl, f2.2.1 84 rfl, f1.2.1 84 rfl]) x x2 xo
      show (gvB b x = true ∧ (if x = 2 * m then _ else if x = 2 * m + 1 then _ else w x) = 0 ∧ _) ∨ (gvB b x = false ∧ MvQ q3 x c _ _ (if x = 2 * m then _ else if x = 2 * m + 1 then _ else w x))
      rw [if_neg (by omega), if_neg (by omega)]; exact this
    · refine Or.inr ⟨gvB_g (by omega), ?_⟩
      rcases (show x = 2 * m ∨ x = 2 * m + 1 by omega) with e | e
      · subst e
        show MvQ q3 (2 * m) c _ _ (if 2 * m = 2 * m then _ else _)
        rw [if_pos rfl, show 2 * m / 2 = m by omega]
        exact MvQ_c A1 (B2 _ (by omega)).1 (f3.2.1 84 rfl) (B2 _ (by omega)).2
      · subst e
        show MvQ q3 (2 * m + 1) c _ _ (if 2 * m + 1 = 2 * m then _ else if 2 * m + 1 = 2 * m + 1 then _ else _)
        rw [if_neg (by omega), if_pos rfl, show (2 * m + 1) / 2 = m by omega]
        exact B1
  · generalize hu : (fun x => if x = 2 * m then mkW (OM.2.1 84) v0 (opO false v1') c (2 * m) else if x = 2 * m + 1 then mkW (OM.2.1 84) v1' (opO false v0) c (2 * m + 1) else w x) = u
    have u0 : u (2 * m) = mkW (OM.2.1 84) v0 (opO false v1') c (2 * m) := by rw [← hu]; exact if_pos rfl
    have u1 : u (2 * m + 1) = mkW (OM.2.1 84) v1' (opO false v0) c (2 * m + 1) := by
      rw [← hu]
      show (if 2 * m + 1 = 2 * m then _ else if 2 * m + 1 = 2 * m + 1 then _ else _) = _
      rw [if_neg (by omega), if_pos rfl]
    have ux : ∀ x : Nat, 2 ≤ x → x < 2 * m → u x = w x := fun x _ hx => by
      rw [← hu]
      show (if x = 2 * m then _ else if x = 2 * m + 1 then _ else _) = _
      rw [if_neg (by omega), if_neg (by omega)]
    have old := SwQ_c Sw (fun g C g1 g2 hc => hC g C g1 (by omega) hc) ux (by omega)
    refine ⟨fun k k1 k2 k3 => old.1 k k1 k2 (by omega), fun g g1 g2 => ?_⟩
    by_cases gm : g < m
    · exact old.2 g g1 gm
    · have eg : g = m := by omega
      subst eg
      have em : ∀ x : Nat, 2 ≤ x → x < 2 * g → mtW w x = mtW u x := fun x x2 xg => by unfold mtW; rw [ux x x2 xg]
      have cv : ∀ (l v : Nat), MnQ v (fun x => ∃ C ∈ rowL (om.2.1 57) (om.2.1 59) (om.2.1 58) g, ∃ cl : Nat, cl < c ∧ CwS b n gr (om.2.1 84) (mtW w) C cl l x) → MnQ v (fun x => ∃ C : List Int, CsR OM g C ∧ ∃ cl : Nat, cl < c ∧ CwS b n gr (OM.2.1 84) (mtW u) C cl l x) := fun l v N => by
        rw [fo.2.1 57 rfl, fo.2.1 58 rfl, fo.2.1 59 rfl, e84] at N
        refine MnQ_e N (fun x => ⟨fun ⟨C, c1, cl, c2, c3⟩ => ?_, fun ⟨C, c1, cl, c2, c3⟩ => ?_⟩)
        · have q := hC g C g1 hm c1
          exact ⟨C, c1, cl, c2, CwS_c q.1 q.2 em c3⟩
        · have q := hC g C g1 hm c1
          exact ⟨C, c1, cl, c2, CwS_c q.1 q.2 (fun x x2 xg => (em x x2 xg).symm) c3⟩
      refine ⟨fun x => if x = 2 * g then v0 else v1', fun l hl => ?_⟩
      rcases (show l = 2 * g ∨ l = 2 * g + 1 by omega) with e | e
      · subst e
        show MnQ (if 2 * g = 2 * g then v0 else v1') _ ∧ u (2 * g) = mkW _ (if 2 * g = 2 * g then v0 else v1') (opO false (if opN (2 * g) = 2 * g then v0 else v1')) c _
        rw [if_pos rfl, o0, if_neg (by omega)]
        exact ⟨cv _ _ N0, u0⟩
      · subst e
        show MnQ (if 2 * g + 1 = 2 * g then v0 else v1') _ ∧ u (2 * g + 1) = mkW _ (if 2 * g + 1 = 2 * g then v0 else v1') (opO false (if opN (2 * g + 1) = 2 * g then v0 else v1')) c _
        rw [if_neg (by omega), o1, if_pos rfl]
        exact ⟨cv _ _ N1, u1⟩
  · rw [f3.2.1 88 rfl, f2.2.1 88 rfl, ot l (by omega)]; exact Z l (by omega) l2
theorem ma_inp {b n c m : Nat} {gr OM om q : cf_O} {w : Nat → Nat} {va : Int32} (X : MaX b n c gr OM) (S : MkS b n c m gr OM om w) (H : ∀ l : Nat, l < 420 → om.2.1 88 l = 0) (Hg : ∀ k : Nat, 1 ≤ k → k < b → om.2.1 86 (2 * k) = 1) (m1 : 1 ≤ m) (hm : m < b) (ea : va.toInt = ((2 * m + 1 : Nat) : Int)) (h : fM_make va om = some q) : (∃ u : Nat → Nat, MkS b n c (m + 1) gr OM q u) ∧ (∀ l : Nat, l < 420 → q.2.1 88 l = 0) ∧ ∀ k : Nat, 1 ≤ k → k < b → q.2.1 86 (2 * k) = 1 := by
  obtain ⟨fo, Rw, Sw, Z⟩ := S
  obtain ⟨G, R, rows, hF, e82⟩ := MaX_f X fo
  have G0 := G.1
  have f2 := wF_M_make h
  have fq : Fr (fr_M [] [86, 87, 88, 89, 90, 91, 98] []) OM q := fr_tr fo f2 rfl rfl rfl
  have o1 : opN (2 * m + 1) = 2 * m := by unfold opN; rw [if_neg (by omega)]; omega
  obtain ⟨A1, A2⟩ := make_sp (c := c) (B0 := 2 * m) (T0 := 0) (B := 2 * m + 2) (T := 198 * m) (v := NOM) (v' := 0) R hF e82 ea (by omega) (Or.inl ⟨H _ (by omega), rfl⟩) (Or.inl (by rw [o1]; exact (gvB_e m1 hm).1)) (by omega) (by omega) (by omega) (by omega) (by omega) h
  rw [o1, (gvB_e m1 hm).1, fo.2.1 84 rfl] at A1
  have A1 : MvQ q (2 * m + 1) c (2 * m + 2) (198 * m) (mkW (OM.2.1 84) NOM (some 0) c (2 * m + 1)) := A1
  refine ⟨⟨fun x => if x = 2 * m then 0 else if x = 2 * m + 1 then mkW (OM.2.1 84) NOM (some 0) c (2 * m + 1) else w x, fq, fun x x2 xm => ?_, ?_, fun l l1 l2 => by rw [f2.2.1 88 rfl]; exact Z l (by omega) l2⟩, fun l hl => by rw [f2.2.1 88 rfl]; exact H l hl, fun k k1 k2 => by rw [(A2 _ (by omega)).1]; exact Hg k k1 k2⟩
  · by_cases xo : x < 2 * m
    · have := RwQ_f Rw (om2 := q) (fun y hy => ⟨(A2 y (by omega)).1, (A2 y (by omega)).2⟩) (f2.2.1 84 rfl) x x2 xo
      show (gvB b x = true ∧ (if x = 2 * m then _ else if x = 2 * m + 1 then _ else w x) = 0 ∧ _) ∨ (gvB b x = false ∧ MvQ q x c _ _ (if x = 2 * m then _ else if x = 2 * m + 1 then _ else w x))
      rw [if_neg (by omega), if_neg (by omega)]; exact this
    · rcases (show x = 2 * m ∨ x = 2 * m + 1 by omega) with e | e
      · subst e
        refine Or.inl ⟨(gvB_e m1 hm).1, if_pos rfl, ?_⟩
        rw [(A2 _ (by omega)).1]; exact Hg m m1 hm
      · subst e
        refine Or.inr ⟨(gvB_e m1 hm).2, ?_⟩
        show MvQ q (2 * m + 1) c _ _ (if 2 * m + 1 = 2 * m then _ else if 2 * m + 1 = 2 * m + 1 then _ else _)
        rw [if_neg (by omega), if_pos rfl, show (2 * m + 1) / 2 = m by omega]
        exact A1
  · refine ⟨fun k k1 k2 k3 => ?_, fun g g1 g2 => absurd g2 (by omega)⟩
    show (if 2 * k = 2 * m then _ else if 2 * k = 2 * m + 1 then _ else w (2 * k)) = 0 ∧ (if 2 * k + 1 = 2 * m then _ else if 2 * k + 1 = 2 * m + 1 then _ else w (2 * k + 1)) = _
    by_cases ek : k = m
    · subst ek
      rw [if_pos rfl, if_neg (by omega), if_pos rfl]
      exact ⟨rfl, rfl⟩
    · rw [if_neg (by omega), if_neg (by omega), if_neg (by omega), if_neg (by omega)]
      exact Sw.1 k k1 k2 (by omega)
theorem ma_go {b n c : Nat} {gr OM : cf_O} (X : MaX b n c gr OM) : ∀ fu : Nat,
    (∀ (k : Nat) (v1 : Int32) (om r : cf_O), v1.toInt = (k : Int) → k ≤ 420 → Fr (fr_M [] [86, 87, 88, 89, 90, 91, 98] []) OM om → (∀ j : Nat, j < k → om.2.1 86 j = bI (gvB b j) ∧ om.2.1 88 j = 0) → gM_makeAll fu 0 v1 om = some r → ∃ w : Nat → Nat, MkS b n c (b + n) gr OM r w) ∧
    (∀ (m : Nat) (v1 : Int32) (om r : cf_O) (w : Nat → Nat), v1.toInt = (m : Int) → 1 ≤ m → m ≤ b → MkS b n c m gr OM om w → (∀ l : Nat, l < 420 → om.2.1 88 l = 0) → (∀ k : Nat, 1 ≤ k → k < b → om.2.1 86 (2 * k) = 1) → gM_makeAll fu 1 v1 om = some r → ∃ w : Nat → Nat, MkS b n c (b + n) gr OM r w) ∧
    (∀ (m : Nat) (v1 : Int32) (om r : cf_O) (w : Nat → Nat), v1.toInt = (m : Int) → b ≤ m → m ≤ b + n → MkS b n c m gr OM om w → gM_makeAll fu 2 v1 om = some r → ∃ w : Nat → Nat, MkS b n c (b + n) gr OM r w)
  | 0 => ⟨fun _ _ _ _ _ _ _ _ h => (by cases h), fun _ _ _ _ _ _ _ _ _ _ _ h => (by cases h), fun _ _ _ _ _ _ _ _ _ h => (by cases h)⟩
  | fu + 1 => by
    obtain ⟨i0, i1, i2⟩ := ma_go X fu
    have G0 := X.1.1
    refine ⟨?_, ?_, ?_⟩
    · intro k v1 om r e1 hk fo H h
      have h : fM_makeAll_2 (gM_makeAll fu) v1 om = some r := h
      unfold fM_makeAll_2 at h
      obtain ⟨_, R, _⟩ := MaX_f X fo
      rcases ifc h with ⟨a, h⟩ | ⟨a, h⟩
      · have a : 420 ≤ v1.toInt := c_le a
        refine i1 1 1 om r (fun _ => 0) rfl (by decide) (by omega) ⟨fo, fun x x2 xm => absurd xm (by omega), ⟨fun k k1 k2 k3 => absurd k3 (by omega), fun g g1 g2 => absurd g2 (by omega)⟩, fun l _ hl => (H l (by omega)).2⟩ (fun l hl => (H l (by omega)).2) (fun k k1 k2 => ?_) h
        rw [(H _ (by omega)).1, (gvB_e k1 k2).1]; rfl
      · have a : v1.toInt < 420 := c_nle a
        obtain ⟨q, hq, h⟩ := bd h
        have eq := isg_sp R e1 hq
        have h := (ifn h).2
        rw [opk] at h
        have h := (ifn h).2
        rw [opk, opk, tW e1, vb_0, eq, show vp_nar .boolean (bI (gvB b k)) = bI (gvB b k) by cases gvB b k <;> decide] at h
        refine i0 (k + 1) (v1 + 1) (xp (xp om 86 k (bI (gvB b k))) 88 k 0) r (by rw [pW (by omega) (by omega)]; omega) (by omega) (fr_xp (fr_xp fo rfl) rfl) (fun j hj => ?_) h
        show upd (om.2.1 86) k _ j = _ ∧ upd (om.2.1 88) k 0 j = 0
        by_cases ej : j = k
        · rw [ej, up_s, up_s]; exact ⟨rfl, rfl⟩
        · rw [up_o ej, up_o ej]; exact H j (by omega)
    · intro m v1 om r w e1 m1 mb S H Hg h
      have h : fM_makeAll_35 (gM_makeAll fu) v1 om = some r := h
      unfold fM_makeAll_35 at h
      obtain ⟨_, R, _⟩ := MaX_f X S.1
      obtain ⟨q, hq, h⟩ := bd h
      have eb := base_sp R hq
      rcases ifc h with ⟨a, h⟩ | ⟨a, h⟩
      · have a := c_le a
        obtain ⟨q5, hq5, h⟩ := bd h
        have eb5 := base_sp R hq5
        have em : m = b := by omega
        subst em
        exact i2 m q5 om r w eb5 (Nat.le_refl _) (by omega) S h
      · have a := c_nle a
        rw [opk, opk] at h
        obtain ⟨q10, h10, h⟩ := bd h
        rw [opk] at h
        have m2 := mul2 e1 (show m < 100000 by omega)
        obtain ⟨⟨u, Su⟩, Hu, Gu⟩ := ma_inp X S H Hg m1 (by omega) (addk (k := 1) m2 rfl (by omega) (by decide)) h10
        exact i1 (m + 1) (v1 + 1) q10 r u (by rw [pW (by omega) (by omega)]; omega) (by omega) (by omega) Su Hu Gu h
    · intro m v1 om r w e1 bm mn S h
      have h : fM_makeAll_63 (gM_makeAll fu) v1 om = some r := h
      unfold fM_makeAll_63 at h
      obtain ⟨_, R, _⟩ := MaX_f X S.1
      have R0 := R.1
      obtain ⟨q, hq, h⟩ := bd h
      have eb := base_sp R hq
      have es : (q + om.1 43).toInt = ((b + n : Nat) : Int) := by rw [i_add (by omega) (by omega)]; omega
      rw [opk] at h
      rcases ifc h with ⟨a, h⟩ | ⟨a, h⟩
      · have a := c_le a
        have em : m = b + n := by omega
        subst em
        rw [← Option.some.inj h]
        exact ⟨w, S⟩
      · have a := c_nle a
        obtain ⟨q6, h6, h⟩ := bd h
        rw [opk] at h
        obtain ⟨q9, h9, h⟩ := bd h
        rw [opk, opk] at h
        obtain ⟨q13, h13, h⟩ := bd h
        rw [opk] at h
        have m2 := mul2 e1 (show m < 100000 by omega)
        obtain ⟨u, Su⟩ := ma_gate X S bm (by omega) e1 m2 (addk (k := 1) m2 rfl (by omega) (by decide)) h6 h9 h13
        exact i2 (m + 1) (v1 + 1) q13 r u (by rw [pW (by omega) (by omega)]; omega) (by omega) (by omega) Su h
theorem makeAll_sp {b n c : Nat} {gr om r : cf_O} (X : MaX b n c gr om) (h : fM_makeAll om = some r) : ∃ w : Nat → Nat, RwQ b c (b + n) r w ∧ SwQ b n c (b + n) gr (om.2.1 84) (CsR om) w := by
  unfold fM_makeAll fM_makeAll_0 at h
  obtain ⟨w, S⟩ := (ma_go X cfFU).1 0 0 om r rfl (Nat.zero_le _) fr_rfl (fun j hj => absurd hj (by omega)) h
  exact ⟨w, S.2.1, S.2.2.1⟩
