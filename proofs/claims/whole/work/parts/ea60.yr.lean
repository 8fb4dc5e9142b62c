def wtB (b x : Nat) : Bool := decide (2 ≤ x) && !gvB b x
theorem isw_sp {b n x : Nat} {gr om : cf_O} {v q : Int32} (R : RGq b n gr om) (ev : v.toInt = (x : Int)) (h : fM_isWanted v om = some q) : q = bI (wtB b x) := by
  unfold fM_isWanted fM_isWanted_0 at h
  rcases ifc h with ⟨a, h⟩ | ⟨a, h⟩
  · have a : v.toInt ≤ 1 := c_le a
    unfold fM_isWanted_17 fM_isWanted_18 at h
    rw [b01_sp h]
    unfold wtB
    rw [decide_eq_false (by omega), Bool.false_and]; rfl
  · have a : 1 < v.toInt := c_nle a
    obtain ⟨y, hy, h⟩ := bd h
    have ey := isg_sp R ev hy
    unfold wtB
    rw [decide_eq_true (by omega), Bool.true_and]
    rcases ifc h with ⟨z, h⟩ | ⟨z, h⟩
    · rw [ey] at z
      unfold fM_isWanted_18 at h
      rw [b01_sp h, bI_0.mp z]; rfl
    · rw [ey] at z
      unfold fM_isWanted_17 fM_isWanted_18 at h
      rw [b01_sp h]
      cases y2 : gvB b x with
      | true => rfl
      | false => rw [y2] at z; exact absurd rfl z
def LeQ (O : Nat → Prop) (P : Nat → Nat → Prop) (I : Nat → Prop) : Prop := (∀ x : Nat, O x → I x) ∧ (∀ x y : Nat, I x → P x y → I y) ∧ ∀ S : Nat → Prop, (∀ x : Nat, O x → S x) → (∀ x y : Nat, S x → P x y → S y) → ∀ x : Nat, I x → S x
theorem LeQ_u {O : Nat → Prop} {P : Nat → Nat → Prop} {I J : Nat → Prop} (h : LeQ O P I) (k : LeQ O P J) (x : Nat) : I x ↔ J x := ⟨fun q => h.2.2 J k.1 k.2.1 x q, fun q => k.2.2 I h.1 h.2.1 x q⟩
def otN (gr : cf_O) (k : Nat) : Nat := (gr.2.1 7 k).toInt.toNat
def OuQ (b M : Nat) (gr : cf_O) (x : Nat) : Prop := (∃ k : Nat, k < M ∧ x = otN gr k) ∧ wtB b x = true
def PiR (b : Nat) (om : cf_O) (x y : Nat) : Prop := (∃ k : Nat, k < 3 ∧ (om.2.1 87 (5 * x + 2 + k)).toInt = (y : Int)) ∧ wtB b y = true
def MkX (b n M : Nat) (gr om : cf_O) : Prop := GW b n gr ∧ RGq b n gr om ∧ (gr.1 1).toInt = (M : Int) ∧ M ≤ 6 ∧ (∀ k : Nat, k < M → om.2.1 47 k = gr.2.1 7 k ∧ 0 ≤ (gr.2.1 7 k).toInt ∧ otN gr k < 2 * (b + n)) ∧ (∀ x k : Nat, k < 3 → (om.2.1 87 (5 * x + 2 + k)).toInt ≤ 417)
theorem MkX_f {b n M : Nat} {gr om om2 : cf_O} (h : MkX b n M gr om) (f : Fr (fr_M [] [92] []) om om2) : MkX b n M gr om2 := by
  obtain ⟨h1, h2, h3, h4, h5, h6⟩ := h
  refine ⟨h1, RGq_f h2 (f.1 39 rfl) (f.1 40 rfl) (f.1 43 rfl) (f.2.1 44 rfl) (f.2.1 45 rfl) (f.2.1 46 rfl) (f.2.1 47 rfl), h3, h4, ?_, ?_⟩
  · rw [f.2.1 47 rfl]; exact h5
  · rw [f.2.1 87 rfl]; exact h6
def B01 (om : cf_O) : Prop := ∀ x : Nat, x < 420 → om.2.1 92 x = 0 ∨ om.2.1 92 x = 1
def MkM (b M : Nat) (gr OM om : cf_O) : Prop := ∀ S : Nat → Prop, (∀ x : Nat, OuQ b M gr x → S x) → (∀ x y : Nat, S x → PiR b OM x y → S y) → ∀ x : Nat, x < 420 → om.2.1 92 x = 1 → S x
def AlQ (b M k : Nat) (gr OM : cf_O) (v : Int32) : Prop := (v = 1 ∧ ∀ j : Nat, j < k → wtB b (otN gr j) = true → OM.2.1 86 (otN gr j) = 1) ∨ (v = 0 ∧ ∃ j : Nat, j < M ∧ wtB b (otN gr j) = true ∧ OM.2.1 86 (otN gr j) = 0)
def MrE (b M : Nat) (gr OM : cf_O) (r : Int32 × cf_O) : Prop := (r.1 = 0 ∧ ∃ j : Nat, j < M ∧ wtB b (otN gr j) = true ∧ OM.2.1 86 (otN gr j) = 0) ∨ (r.1 = 1 ∧ (∀ j : Nat, j < M → wtB b (otN gr j) = true → OM.2.1 86 (otN gr j) = 1) ∧ B01 r.2 ∧ LeQ (OuQ b M gr) (PiR b OM) (fun x => x < 420 ∧ r.2.2.1 92 x = 1))
def ClA (b : Nat) (OM om : cf_O) (x : Nat) : Prop := om.2.1 92 x = 1 → ∀ y : Nat, PiR b OM x y → om.2.1 92 y = 1
theorem mka_go {b n M : Nat} {gr OM : cf_O} (X : MkX b n M gr OM) (e86 : ∀ x : Nat, OM.2.1 86 x = 0 ∨ OM.2.1 86 x = 1) : ∀ fu : Nat,
    (∀ (k : Nat) (v1 w2 w3 w4 : Int32) (om : cf_O) (r : Int32 × cf_O), v1.toInt = (k : Int) → k ≤ 420 → Fr (fr_M [] [92] []) OM om → (∀ j : Nat, j < k → om.2.1 92 j = 0) → gM_markAll fu 0 v1 w2 w3 w4 om = some r → MrE b M gr OM r) ∧
    (∀ (k : Nat) (v1 v2 w3 w4 : Int32) (om : cf_O) (r : Int32 × cf_O), v2.toInt = (k : Int) → k ≤ M → Fr (fr_M [] [92] []) OM om → AlQ b M k gr OM v1 → B01 om → (∀ j : Nat, j < k → wtB b (otN gr j) = true → om.2.1 92 (otN gr j) = 1) → MkM b M gr OM om → gM_markAll fu 1 v1 v2 w3 w4 om = some r → MrE b M gr OM r) ∧
    (∀ (v1 v2 w3 w4 : Int32) (om : cf_O) (r : Int32 × cf_O), Fr (fr_M [] [92] []) OM om → AlQ b M M gr OM v1 → B01 om → (∀ j : Nat, j < M → wtB b (otN gr j) = true → om.2.1 92 (otN gr j) = 1) → MkM b M gr OM om → (v1 = 0 ∨ v2 = 0 → v1 = 0 ∨ ∀ x : Nat, x < 420 → ClA b OM om x) → (v1 = 0 → v2 = 0) → gM_markAll fu 2 v1 v2 w3 w4 om = some r → MrE b M gr OM r) ∧
    (∀ (v1 v2 v3 w4 : Int32) (om : cf_O) (r : Int32 × cf_O), Fr (fr_M [] [92] []) OM om → AlQ b M M gr OM v1 → ¬ v1 = 0 → B01 om → (∀ j : Nat, j < M → wtB b (otN gr j) = true → om.2.1 92 (otN gr j) = 1) → MkM b M gr OM om → -1 ≤ v3.toInt → v3.toInt < 420 → (v2 = 0 → ∀ x : Nat, v3.toInt < (x : Int) → x < 420 → ClA b OM om x) → gM_markAll fu 3 v1 v2 v3 w4 om = some r → MrE b M gr OM r) ∧
    (∀ (m k : Nat) (v1 v2 v3 v4 : Int32) (om : cf_O) (r : Int32 × cf_O), Fr (fr_M [] [92] []) OM om → AlQ b M M gr OM v1 → ¬ v1 = 0 → B01 om → (∀ j : Nat, j < M → wtB b (otN gr j) = true → om.2.1 92 (otN gr j) = 1) → MkM b M gr OM om → v3.toInt = (m : Int) → m < 420 → v4.toInt = (k : Int) → k ≤ 3 → (v2 = 0 → (∀ x : Nat, m < x → x < 420 → ClA b OM om x) ∧ (om.2.1 92 m = 1 → ∀ (j y : Nat), j < k → (OM.2.1 87 (5 * m + 2 + j)).toInt = (y : Int) → wtB b y = true → om.2.1 92 y = 1)) → gM_markAll fu 4 v1 v2 v3 v4 om = some r → MrE b M gr OM r)
  | 0 => ⟨fun _ _ _ _ _ _ _ _ _ _ _ h => (by cases h), fun _ _ _ _ _ _ _ _ _ _ _ _ _ _ h => (by cases h), fun _ _ _ _ _ _ _ _ _ _ _ _ _ h => (by cases h), fun _ _ _ _ _ _ _ _ _ _ _ _ _ _ _ h => (by cases h), fun _ _ _ _ _ _ _ _ _ _ _ _ _ _ _ _ _ _ _ h => (by cases h)⟩
  | fu + 1 => by
    obtain ⟨i0, i1, i2, i3, i4⟩ := mka_go X e86 fu
    have X0 := X
    obtain ⟨G, R, eM, M6, ou, pl⟩ := X
    have G0 := G.1
    refine ⟨?_, ?_, ?_, ?_, ?_⟩
    · intro k v1 w2 w3 w4 om r e1 hk fo H h
      have h : fM_markAll_2 (gM_markAll fu) v1 om = some r := h
      unfold fM_markAll_2 at h
      rcases ifc h with ⟨a, h⟩ | ⟨a, h⟩
      · have a : 420 ≤ v1.toInt := c_le a
        exact i1 0 1 0 0 0 om r rfl (Nat.zero_le _) fo (Or.inl ⟨rfl, fun j hj => absurd hj (by omega)⟩) (fun x hx => Or.inl (H x (by omega))) (fun j hj => absurd hj (by omega)) (fun S _ _ x hx e => by rw [H x (by omega)] at e; exact absurd e (by decide)) h
      · have a : v1.toInt < 420 := c_nle a
        have h := (ifn h).2
        rw [opk, opk, tW e1, vb_0] at h
        refine i0 (k + 1) (v1 + 1) 0 0 0 (xp om 92 k 0) r (by rw [pW (by omega) (by omega)]; omega) (by omega) (fr_xp fo rfl) (fun j hj => ?_) h
        show upd (om.2.1 92) k 0 j = 0
        by_cases ej : j = k
        · rw [ej, up_s]
        · rw [up_o ej]; exact H j (by omega)
    · intro k v1 v2 w3 w4 om r e2 hk fo A B H Mn h
      have h : fM_markAll_26 (gM_markAll fu) v1 v2 om = some r := h
      unfold fM_markAll_26 at h
      have R1 := (MkX_f X0 fo).2.1
      have e40 : (om.1 40).toInt = (M : Int) := by rw [R1.1.2.2.2.2.1]; exact eM
      rcases ifc h with ⟨a, h⟩ | ⟨a, h⟩
      · have a := c_le a
        have ek : k = M := by omega
        subst ek
        refine i2 v1 v1 0 0 om r fo A B H Mn (fun z => Or.inl (z.elim id id)) id h
      · have a := c_nle a
        obtain ⟨o1, o2, o3⟩ := ou k (by omega)
        have e47 : om.2.1 47 k = gr.2.1 7 k := by rw [fo.2.1 47 rfl]; exact o1
        have eo : (gr.2.1 7 k).toInt = (otN gr k : Int) := by unfold otN; omega
        have h := (ifn h).2
        rw [opk, tW e2, e47] at h
        have h := (ifn h).2
        rw [opk] at h
        have h := (ifn h).2
        rw [opk, tW eo] at h
        have k76 : ∀ s2 : Int32, s2 = bI (wtB b (otN gr k)) ∨ (om.2.1 92 (otN gr k) = 1 ∧ s2 = 1) → fM_markAll_76 (gM_markAll fu) v1 v2 (gr.2.1 7 k) s2 om = some r → MrE b M gr OM r := fun s2 hs z => by
          have s01 : s2 = 0 ∨ s2 = 1 := by
            rcases hs with e | ⟨_, e⟩
            · rw [e]; cases wtB b (otN gr k) <;> decide
            · exact Or.inr e
          have nar : vp_nar .boolean s2 = s2 := by
            rcases s01 with e | e
            · rw [e]; exact vb_0
            · rw [e]; exact vb_1
          unfold fM_markAll_76 at z
          have z := (ifn z).2
          rw [opk, tW eo, nar] at z
          generalize hq : xp om 92 (otN gr k) s2 = q at z
          have fq : Fr (fr_M [] [92] []) OM q := by rw [← hq]; exact fr_xp fo rfl
          have q92 : q.2.1 92 = upd (om.2.1 92) (otN gr k) s2 := by rw [← hq]; rfl
          have Rq := (MkX_f X0 fq).2.1
          have Bq : B01 q := fun x hx => by
            rw [q92]
            by_cases ex : x = otN gr k
            · rw [ex, up_s]; exact s01
            · rw [up_o ex]; exact B x hx
          have Hq : ∀ j : Nat, j < k + 1 → wtB b (otN gr j) = true → q.2.1 92 (otN gr j) = 1 := fun j hj wj => by
            rw [q92]
            by_cases ex : otN gr j = otN gr k
            · rw [ex, up_s]
              rcases hs with e | ⟨_, e⟩
              · rw [e, ← ex, wj]; rfl
              · exact e
            · rw [up_o ex]
              exact H j (by have : ¬ j = k := fun e => ex (by rw [e]); omega) wj
          have Mq : MkM b M gr OM q := fun S s1 s2' x hx e => by
            rw [q92] at e
            by_cases ex : x = otN gr k
            · rw [ex, up_s] at e
              rcases hs with e2 | ⟨e2, _⟩
              · rw [e2] at e
                have wk : wtB b (otN gr k) = true := by
                  cases y : wtB b (otN gr k) with
                  | true => rfl
                  | false => rw [y] at e; exact absurd e (by decide)
                exact s1 x ⟨⟨k, by omega, ex⟩, by rw [ex]; exact wk⟩
              · rw [ex]; exact Mn S s1 s2' _ (by omega) e2
            · rw [up_o ex] at e
              exact Mn S s1 s2' x hx e
          have go : ∀ u : Int32, AlQ b M (k + 1) gr OM u → fM_markAll_113 (gM_markAll fu) v2 u q = some r → MrE b M gr OM r := fun u Au y => by
            unfold fM_markAll_113 at y
            rw [opk] at y
            exact i1 (k + 1) u (v2 + 1) 0 0 q r (by rw [pW (by omega) (by omega)]; omega) (by omega) fq Au Bq Hq Mq y
          rcases ifc z with ⟨z0, z⟩ | ⟨z0, z⟩
          · unfold fM_markAll_112 at z
            refine go 0 (Or.inr ⟨rfl, ?_⟩) z
            rcases A with ⟨p, _⟩ | ⟨_, p⟩
            · rw [p] at z0; exact absurd z0 (by decide)
            · exact p
          · have A1 := A.resolve_right (fun p => z0 p.1)
            have z := (ifn z).2
            have qe47 : q.2.1 47 k = gr.2.1 7 k := by rw [fq.2.1 47 rfl]; exact o1
            rw [opk, tW e2, qe47] at z
            obtain ⟨y, hy, z⟩ := bd z
            have ey := isw_sp Rq eo hy
            rcases ifc z with ⟨y0, z⟩ | ⟨y0, z⟩
            · rw [ey] at y0
              have y0 := bI_0.mp y0
              unfold fM_markAll_108 at z
              refine go 1 (Or.inl ⟨rfl, fun j hj wj => ?_⟩) z
              by_cases ej : j = k
              · rw [ej, y0] at wj; cases wj
              · exact A1.2 j (by omega) wj
            · rw [ey] at y0
              have wk : wtB b (otN gr k) = true := by
                cases y1 : wtB b (otN gr k) with
                | true => rfl
                | false => rw [y1] at y0; exact absurd rfl y0
              have z := (ifn z).2
              rw [opk] at z
              have z := (ifn z).2
              rw [opk, tW eo, fq.2.1 86 rfl] at z
              rcases ifc z with ⟨x0, z⟩ | ⟨x0, z⟩
              · unfold fM_markAll_112 at z
                exact go 0 (Or.inr ⟨rfl, k, by omega, wk, x0⟩) z
              · unfold fM_markAll_108 at z
                refine go 1 (Or.inl ⟨rfl, fun j hj wj => ?_⟩) z
                by_cases ej : j = k
                · rw [ej]; exact (e86 _).resolve_left x0
                · exact A1.2 j (by omega) wj
        rcases ifc h with ⟨d, h⟩ | ⟨d, h⟩
        · have h := (ifn h).2
          rw [opk] at h
          obtain ⟨y, hy, h⟩ := bd h
          have ey := isw_sp R1 eo hy
          rcases ifc h with ⟨y0, h⟩ | ⟨y0, h⟩
          · exact k76 0 (Or.inl (by rw [← ey, y0])) h
          · unfold fM_markAll_71 at h
            rw [ey] at y0
            refine k76 1 (Or.inl ?_) h
            cases y1 : wtB b (otN gr k) with
            | true => rfl
            | false => rw [y1] at y0; exact absurd rfl y0
        · unfold fM_markAll_71 at h
          exact k76 1 (Or.inr ⟨(B _ (by omega)).resolve_left d, rfl⟩) h
    · intro v1 v2 w3 w4 om r fo A B H Mn cl hv h
      have h : fM_markAll_122 (gM_markAll fu) v1 v2 om = some r := h
      unfold fM_markAll_122 at h
      rcases ifc h with ⟨a, h⟩ | ⟨a, h⟩
      · have h := (ifn h).2
        rw [← Option.some.inj h]
        rcases A with ⟨p1, p2⟩ | ⟨p1, p2⟩
        · refine Or.inr ⟨p1, p2, B, fun x hx => ?_, fun x y hx hy => ?_, fun S s1 s2 x hx => Mn S s1 s2 x hx.1 hx.2⟩
          · obtain ⟨⟨k, k1, k2⟩, w⟩ := hx
            have := (ou k k1).2.2
            refine ⟨by omega, ?_⟩
            rw [k2] at w ⊢
            exact H k k1 w
          · have c := (cl (Or.inr a)).resolve_left (by rw [p1]; decide)
            obtain ⟨⟨k, k1, k2⟩, w⟩ := hy
            have := pl x k k1
            exact ⟨by omega, c x hx.1 hx.2 y ⟨⟨k, k1, k2⟩, w⟩⟩
        · exact Or.inl ⟨p1, p2⟩
      · exact i3 v1 0 419 0 om r fo A (fun z => a (hv z)) B H Mn (by decide) (by decide) (fun _ x hx hx2 => absurd hx (by show ¬ (419 : Int) < (x : Int); omega)) h
    · intro v1 v2 v3 w4 om r fo A nv1 B H Mn h0 h1 cl h
      have h : fM_markAll_132 (gM_markAll fu) v1 v2 v3 om = some r := h
      unfold fM_markAll_132 at h
      rcases ifc h with ⟨a, h⟩ | ⟨a, h⟩
      · have a : v3.toInt < 0 := c_lt a
        exact i2 v1 v2 0 0 om r fo A B H Mn (fun z => by
          rcases z with z | z
          · exact Or.inl z
          · exact Or.inr (fun x hx => cl z x (by omega) hx)) (fun z => absurd z nv1) h
      · have a : 0 ≤ v3.toInt := c_nlt a
        exact i4 v3.toInt.toNat 0 v1 v2 v3 0 om r fo A nv1 B H Mn (by omega) (by omega) rfl (by decide) (fun z => ⟨fun x hx hx2 => cl z x (by omega) hx2, fun _ j y hj => absurd hj (by omega)⟩) h
    · intro m k v1 v2 v3 v4 om r fo A nv1 B H Mn e3 hm e4 hk cl h
      have h : fM_markAll_139 (gM_markAll fu) v1 v2 v3 v4 om = some r := h
      unfold fM_markAll_139 at h
      have R1 := (MkX_f X0 fo).2.1
      have k209 : (v2 = 0 → ∀ x : Nat, m ≤ x → x < 420 → ClA b OM om x) → fM_markAll_209 (gM_markAll fu) v1 v2 v3 om = some r → MrE b M gr OM r := fun c2 z => by
        unfold fM_markAll_209 at z
        rw [opk] at z
        have e : (v3 + (-1)).toInt = (m : Int) - 1 := by rw [i_add (by rw [e3]; show -2147483648 ≤ (m : Int) + -1; omega) (by rw [e3]; show (m : Int) + -1 ≤ 2147483647; omega), e3]; rfl
        generalize v3 + (-1) = v9 at z e
        exact i3 v1 v2 v9 0 om r fo A nv1 B H Mn (by omega) (by omega) (fun y x hx hx2 => c2 y x (by omega) hx2) z
      rcases ifc h with ⟨a, h⟩ | ⟨a, h⟩
      · have a : 3 ≤ v4.toInt := c_le a
        refine k209 (fun z x hx hx2 => ?_) h
        by_cases ex : x = m
        · subst ex
          rintro e y ⟨⟨j, j1, j2⟩, w⟩
          exact (cl z).2 e j y (by omega) j2 w
        · exact (cl z).1 x (by omega) hx2
      · have a : v4.toInt < 3 := c_nle a
        have h := (ifn h).2
        rw [opk, tW e3] at h
        rcases ifc h with ⟨d, h⟩ | ⟨d, h⟩
        · refine k209 (fun z x hx hx2 => ?_) h
          by_cases ex : x = m
          · subst ex
            intro e
            rw [d] at e; exact absurd e (by decide)
          · exact (cl z).1 x (by omega) hx2
        · have m1 : om.2.1 92 m = 1 := (B m hm).resolve_left d
          have m5 := mul5 e3 (show m < 100000 by omega)
          have a2 := addk (k := 2) m5 (w := 2) rfl (by omega) (by decide)
          have a4 := addk a2 e4 (by omega) (by omega)
          rw [opk, opk, opk, tW a4] at h
          have h := (ifn h).2
          rw [opk, fo.2.1 87 rfl] at h
          have p4 := pW (v := v4) (by omega) (by omega)
          have k203 : (v2 = 0 → ∀ y : Nat, (OM.2.1 87 (5 * m + 2 + k)).toInt = (y : Int) → wtB b y = true → om.2.1 92 y = 1) → fM_markAll_203 (gM_markAll fu) v1 v2 v3 v4 om = some r → MrE b M gr OM r := fun c3 z => by
            unfold fM_markAll_203 at z
            rw [opk] at z
            refine i4 m (k + 1) v1 v2 v3 (v4 + 1) om r fo A nv1 B H Mn e3 hm (by omega) (by omega) (fun y => ⟨(cl y).1, fun e j u hj e1 w => ?_⟩) z
            by_cases ej : j = k
            · subst ej; exact c3 y u e1 w
            · exact (cl y).2 e j u (by omega) e1 w
          rcases ifc h with ⟨n0, h⟩ | ⟨n0, h⟩
          · have n0 : (OM.2.1 87 (5 * m + 2 + k)).toInt < 0 := c_lt n0
            exact k203 (fun _ y e _ => by omega) h
          · have n0 : 0 ≤ (OM.2.1 87 (5 * m + 2 + k)).toInt := c_nlt n0
            obtain ⟨y, ey⟩ : ∃ y : Nat, (OM.2.1 87 (5 * m + 2 + k)).toInt = (y : Int) := ⟨(OM.2.1 87 (5 * m + 2 + k)).toInt.toNat, by omega⟩
            have yl := pl m k (by omega)
            obtain ⟨q, hq, h⟩ := bd h
            have eq := isw_sp R1 ey hq
            rcases ifc h with ⟨z0, h⟩ | ⟨z0, h⟩
            · rw [eq] at z0
              have z0 := bI_0.mp z0
              refine k203 (fun _ u eu w => ?_) h
              have uy : u = y := by omega
              rw [uy, z0] at w; cases w
            · rw [eq] at z0
              have wy : wtB b y = true := by
                cases y1 : wtB b y with
                | true => rfl
                | false => rw [y1] at z0; exact absurd rfl z0
              have h := (ifn h).2
              rw [opk, tW ey] at h
              rcases ifc h with ⟨u0, h⟩ | ⟨u0, h⟩
              · have h := (ifn h).2
                rw [opk, vb_1] at h
                unfold fM_markAll_203 at h
                rw [opk] at h
                refine i4 m (k + 1) v1 1 v3 (v4 + 1) (xp om 92 y 1) r (fr_xp fo rfl) A nv1 (fun x hx => ?_) (fun j hj wj => ?_) (fun S s1 s2 x hx e => ?_) e3 hm (by omega) (by omega) (fun z => absurd z (by decide)) h
                · show upd (om.2.1 92) y 1 x = 0 ∨ upd (om.2.1 92) y 1 x = 1
                  by_cases ex : x = y
                  · rw [ex, up_s]; exact Or.inr rfl
                  · rw [up_o ex]; exact B x hx
                · show upd (om.2.1 92) y 1 _ = 1
                  by_cases ex : otN gr j = y
                  · rw [ex, up_s]
                  · rw [up_o ex]; exact H j hj wj
                · have e : upd (om.2.1 92) y 1 x = 1 := e
                  by_cases ex : x = y
                  · rw [ex]
                    exact s2 m y (Mn S s1 s2 m hm m1) ⟨⟨k, by omega, ey⟩, wy⟩
                  · rw [up_o ex] at e; exact Mn S s1 s2 x hx e
              · refine k203 (fun _ u eu w => ?_) h
                have uy : u = y := by omega
                rw [uy]; exact (B y (by omega)).resolve_left u0
theorem markAll_sp {b n M : Nat} {gr om : cf_O} {r : Int32 × cf_O} (X : MkX b n M gr om) (e86 : ∀ x : Nat, om.2.1 86 x = 0 ∨ om.2.1 86 x = 1) (h : fM_markAll om = some r) : MrE b M gr om r := by
  unfold fM_markAll fM_markAll_0 at h
  exact (mka_go X e86 cfFU).1 0 0 0 0 0 om r rfl (Nat.zero_le _) fr_rfl (fun j hj => absurd hj (by omega)) h
