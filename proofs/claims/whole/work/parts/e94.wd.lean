def CvF (b : Nat) (lo hi : Nat → Int32) (C : List Int) : Nat → Nat → Prop
  | 0, _ => False
  | f + 1, x => (x : Int) ∈ C ∨ (b ≤ x ∧ CvF b lo hi C f ((lo x).toInt.toNat / 2) ∧ CvF b lo hi C f ((hi x).toInt.toNat / 2))
theorem CvF_m {b : Nat} {lo hi : Nat → Int32} {C : List Int} : ∀ {f h x : Nat}, CvF b lo hi C f x → f ≤ h → CvF b lo hi C h x
  | 0, _, _, q, _ => q.elim
  | f + 1, 0, _, _, e => by omega
  | f + 1, h + 1, x, q, e => by
    rcases q with q | ⟨q1, q2, q3⟩
    · exact Or.inl q
    · exact Or.inr ⟨q1, CvF_m q2 (by omega), CvF_m q3 (by omega)⟩
theorem CvF_s {b : Nat} {lo hi : Nat → Int32} {C D : List Int} (hs : ∀ z ∈ C, z ∈ D) : ∀ {f x : Nat}, CvF b lo hi C f x → CvF b lo hi D f x
  | 0, _, q => q.elim
  | f + 1, x, q => by
    rcases q with q | ⟨q1, q2, q3⟩
    · exact Or.inl (hs _ q)
    · exact Or.inr ⟨q1, CvF_s hs q2, CvF_s hs q3⟩
theorem cuts_cov {b K : Nat} {lo hi : Nat → Int32} (hb : 1 ≤ b) : ∀ (n : Nat) (rows : List (List (List Int))), (∀ g : Nat, g < n → 2 ≤ (lo (b + g)).toInt ∧ (lo (b + g)).toInt / 2 < (hi (b + g)).toInt / 2 ∧ (hi (b + g)).toInt / 2 < ((b + g : Nat) : Int)) → cutsN b (shN b lo) (shN b hi) K n = some rows → rows.length = b + n ∧ ∀ k : Nat, k < b + n → ∀ C ∈ rows.getD k [], CvF b lo hi C (k + 1) k
  | 0, rows, hg, h => by
    have e : rows = List.replicate b [] := (Option.some.inj h).symm
    subst e
    refine ⟨by rw [List.length_replicate]; rfl, fun k hk C hC => ?_⟩
    rw [rep_d] at hC
    exact absurd hC (List.not_mem_nil)
  | g + 1, rows, hg, h => by
    have h : (cutsN b (shN b lo) (shN b hi) K g).bind (fun rows => (gateL (alR rows ((shN b lo g).toInt / 2).toNat) (alR rows ((shN b hi g).toInt / 2).toNat) K).map (fun r => rows ++ [r])) = some rows := h
    obtain ⟨rows0, h0, h⟩ := bd h
    obtain ⟨ln, ih⟩ := cuts_cov hb g rows0 (fun j hj => hg j (by omega)) h0
    obtain ⟨r, hr, er⟩ := Option.map_eq_some_iff.mp h
    subst er
    refine ⟨by rw [List.length_append, ln]; rfl, fun k hk C hC => ?_⟩
    by_cases ek : k = b + g
    · rw [ek, ← ln, rows_2] at hC
      rw [gateL_e] at hr
      obtain ⟨L', e1, e2⟩ := fm_sub hr
      rw [e1, List.nil_append] at hC
      obtain ⟨X, hX, Y, hY, eC, _⟩ := cnd_m.mp (e2.subset hC)
      have gg := hg g (by omega)
      have al : ∀ (x : Nat) (Z : List Int), 1 ≤ x → x < b + g → Z ∈ alR rows0 x → (∀ z ∈ Z, z ∈ C) → CvF b lo hi C (b + g) x := fun x Z x1 x2 hZ hs => by
        unfold alR at hZ
        rcases List.mem_append.mp hZ with q | q
        · exact CvF_m (CvF_s hs (ih x x2 Z q)) (by omega)
        · have q := List.mem_singleton.mp q
          unfold aloneL at q
          rw [if_neg (by omega)] at q
          obtain ⟨f, ef⟩ : ∃ f, b + g = f + 1 := ⟨b + g - 1, by omega⟩
          rw [ef]
          exact Or.inl (hs _ (by rw [q]; exact List.mem_singleton.mpr rfl))
      have l1 : (shN b lo g).toInt = (lo (b + g)).toInt := rfl
      have l2 : (shN b hi g).toInt = (hi (b + g)).toInt := rfl
      rw [l1, show ((lo (b + g)).toInt / 2).toNat = (lo (b + g)).toInt.toNat / 2 by omega] at hX
      rw [l2, show ((hi (b + g)).toInt / 2).toNat = (hi (b + g)).toInt.toNat / 2 by omega] at hY
      rw [ek]
      exact Or.inr ⟨by omega, al _ X (by omega) (by omega) hX (fun z hz => by rw [eC]; exact mg_mem.mpr (Or.inl hz)), al _ Y (by omega) (by omega) hY (fun z hz => by rw [eC]; exact mg_mem.mpr (Or.inr hz))⟩
    · rw [rows_1 (by omega)] at hC
      exact ih k (by omega) C hC
def CvG (b : Nat) (gr : cf_O) (C : List Int) (x : Nat) : Prop := CvF b (gr.2.1 4) (gr.2.1 5) C (x + 1) x
theorem Gch {b n x : Nat} {gr : cf_O} (G : GW b n gr) (hb : b ≤ x) (hx : x < b + n) : 2 ≤ (gr.2.1 4 x).toInt ∧ (gr.2.1 4 x).toInt.toNat / 2 < (gr.2.1 5 x).toInt.toNat / 2 ∧ (gr.2.1 5 x).toInt.toNat / 2 < x ∧ 1 ≤ (gr.2.1 4 x).toInt.toNat / 2 ∧ 2 ≤ (gr.2.1 5 x).toInt := by
  have gg := G.2.1 (x - b) (by omega)
  rw [show b + (x - b) = x by omega] at gg
  omega
theorem Cv_g {b n x : Nat} {gr : cf_O} {C : List Int} (G : GW b n gr) (hx : x < b + n) (h : CvG b gr C x) (hn : ¬ (x : Int) ∈ C) : b ≤ x ∧ CvG b gr C ((gr.2.1 4 x).toInt.toNat / 2) ∧ CvG b gr C ((gr.2.1 5 x).toInt.toNat / 2) := by
  have h := Or.resolve_left (show (x : Int) ∈ C ∨ (b ≤ x ∧ CvF b (gr.2.1 4) (gr.2.1 5) C x ((gr.2.1 4 x).toInt.toNat / 2) ∧ CvF b (gr.2.1 4) (gr.2.1 5) C x ((gr.2.1 5 x).toInt.toNat / 2)) from h) hn
  have c := Gch G h.1 hx
  have fix : ∀ f y : Nat, y < f → y < b + n → CvF b (gr.2.1 4) (gr.2.1 5) C f y → CvG b gr C y := by
    intro f
    induction f with
    | zero => intro y h1 _ q; exact q.elim
    | succ f ih =>
      intro y h1 h2 q
      rcases q with q | ⟨q1, q2, q3⟩
      · exact Or.inl q
      · have d := Gch G q1 h2
        refine Or.inr ⟨q1, CvF_m (ih _ (by omega) (by omega) q2) (by omega), CvF_m (ih _ (by omega) (by omega) q3) (by omega)⟩
  exact ⟨h.1, fix x _ (by omega) (by omega) h.2.1, fix x _ (by omega) (by omega) h.2.2⟩
theorem Cv_ge {b n m : Nat} {gr : cf_O} {C : List Int} (G : GW b n gr) (hC : ∀ z ∈ C, (m : Int) ≤ z) : ∀ (f x : Nat), x < b + n → CvF b (gr.2.1 4) (gr.2.1 5) C f x → m ≤ x ∧ (¬ (x : Int) ∈ C → m < x)
  | 0, _, _, q => q.elim
  | f + 1, x, hx, q => by
    rcases q with q | ⟨q1, q2, q3⟩
    · have := hC _ q
      exact ⟨by omega, fun z => absurd q z⟩
    · have d := Gch G q1 hx
      have := Cv_ge G hC f _ (by omega) q2
      exact ⟨by omega, fun _ => by omega⟩
def chd (gr : cf_O) (p k : Nat) : Prop := k = (gr.2.1 4 p).toInt.toNat / 2 ∨ k = (gr.2.1 5 p).toInt.toNat / 2
def BtS (gr : cf_O) (C : List Int) (g : Nat) (B : Nat → Prop) : Prop := ∀ k : Nat, k < 209 → (B k ↔ (k = g ∨ (¬ (k : Int) ∈ C ∧ ∃ p : Nat, k < p ∧ p ≤ g ∧ B p ∧ chd gr p k)))
theorem BtS_u {gr : cf_O} {C : List Int} {g : Nat} {B D : Nat → Prop} (hg : g < 209) (h1 : BtS gr C g B) (h2 : BtS gr C g D) : ∀ d k : Nat, g < k + d → k < 209 → (B k ↔ D k)
  | 0, k, e, hk => by
    rw [h1 k hk, h2 k hk]
    constructor
    · rintro (q | ⟨_, p, p1, p2, _⟩) <;> omega
    · rintro (q | ⟨_, p, p1, p2, _⟩) <;> omega
  | d + 1, k, e, hk => by
    rw [h1 k hk, h2 k hk]
    constructor
    · rintro (q | ⟨q, p, p1, p2, p3, p4⟩)
      · exact Or.inl q
      · exact Or.inr ⟨q, p, p1, p2, (BtS_u hg h1 h2 d p (by omega) (by omega)).mp p3, p4⟩
    · rintro (q | ⟨q, p, p1, p2, p3, p4⟩)
      · exact Or.inl q
      · exact Or.inr ⟨q, p, p1, p2, (BtS_u hg h1 h2 d p (by omega) (by omega)).mpr p3, p4⟩
theorem BtS_c {b n g : Nat} {gr : cf_O} {C : List Int} {B : Nat → Prop} (G : GW b n gr) (hg : g < b + n) (hc : CvG b gr C g) (gC : ¬ (g : Int) ∈ C) (h : BtS gr C g B) : ∀ d k : Nat, g < k + d → k < 209 → B k → CvG b gr C k ∧ k ≤ g ∧ ¬ (k : Int) ∈ C
  | 0, k, e, hk, q => by
    rcases (h k hk).mp q with z | ⟨_, p, p1, p2, _⟩ <;> omega
  | d + 1, k, e, hk, q => by
    have G0 := G.1
    rcases (h k hk).mp q with z | ⟨z, p, p1, p2, p3, p4⟩
    · subst z; exact ⟨hc, Nat.le_refl _, gC⟩
    · obtain ⟨i1, i2, i3⟩ := BtS_c G hg hc gC h d p (by omega) (by omega) p3
      have c := Cv_g G (by omega) i1 i3
      refine ⟨?_, by omega, z⟩
      rcases p4 with q | q
      · rw [q]; exact c.2.1
      · rw [q]; exact c.2.2
def CVq (b n : Nat) (gr : cf_O) (C : List Int) (W : Nat → Nat → Bool) : Prop := (∀ j k i : Nat, C[j]? = some (k : Int) → W k i = i.testBit j) ∧ (∀ k i : Nat, k < b → ¬ (k : Int) ∈ C → W k i = false) ∧ ∀ g i : Nat, g < n → ¬ ((b + g : Nat) : Int) ∈ C → W (b + g) i = (lvq W (gr.2.1 4 (b + g)) i && lvq W (gr.2.1 5 (b + g)) i)
def ixI : List Int → Int → Option Nat
  | [], _ => none
  | a :: C, z => if a = z then some 0 else (ixI C z).map (fun j => j + 1)
theorem ix_s : ∀ {C : List Int} {j : Nat} {z : Int}, Sd C → C[j]? = some z → ixI C z = some j
  | [], j, z, _, h => by cases h
  | a :: C, 0, z, _, h => by
    have e : a = z := Option.some.inj h
    unfold ixI
    rw [if_pos e]
  | a :: C, j + 1, z, hs, h => by
    have h : C[j]? = some z := h
    have c := sd_c.mp hs
    have := c.1 z (List.mem_of_getElem? h)
    unfold ixI
    rw [if_neg (by omega), ix_s c.2 h]; rfl
theorem ix_n : ∀ {C : List Int} {z : Int}, ¬ z ∈ C → ixI C z = none
  | [], _, _ => rfl
  | a :: C, z, h => by
    unfold ixI
    rw [if_neg (fun e => h (by rw [e]; exact List.mem_cons_self)), ix_n (fun q => h (List.mem_cons_of_mem a q))]; rfl
noncomputable def nWf (b : Nat) (lo hi : Nat → Int32) (C : List Int) : Nat → Nat → Nat → Bool
  | 0, _, _ => false
  | f + 1, k, i => ((ixI C (k : Int)).map (fun j => i.testBit j)).getD (if k < b then false else lvq (nWf b lo hi C f) (lo k) i && lvq (nWf b lo hi C f) (hi k) i)
theorem nWf_e {b n : Nat} {gr : cf_O} {C : List Int} (G : GW b n gr) : ∀ (f h k i : Nat), k < f → k < h → k < b + n → nWf b (gr.2.1 4) (gr.2.1 5) C f k i = nWf b (gr.2.1 4) (gr.2.1 5) C h k i
  | 0, h, k, i, h1, h2, hk => by omega
  | f + 1, 0, k, i, h1, h2, hk => by omega
  | f + 1, h + 1, k, i, h1, h2, hk => by
    show ((ixI C (k : Int)).map (fun j => i.testBit j)).getD (if k < b then false else lvq (nWf b (gr.2.1 4) (gr.2.1 5) C f) (gr.2.1 4 k) i && lvq (nWf b (gr.2.1 4) (gr.2.1 5) C f) (gr.2.1 5 k) i) = ((ixI C (k : Int)).map (fun j => i.testBit j)).getD (if k < b then false else lvq (nWf b (gr.2.1 4) (gr.2.1 5) C h) (gr.2.1 4 k) i && lvq (nWf b (gr.2.1 4) (gr.2.1 5) C h) (gr.2.1 5 k) i)
    congr 1
    by_cases d : k < b
    · rw [if_pos d, if_pos d]
    · rw [if_neg d, if_neg d]
      have c := Gch G (by omega) hk
      unfold lvq
      rw [nWf_e G f h _ i (by omega) (by omega) (by omega), nWf_e G f h ((gr.2.1 5 k).toInt.toNat / 2) i (by omega) (by omega) (by omega)]
theorem CV_ex {b n : Nat} {gr : cf_O} {C : List Int} (G : GW b n gr) (hC : Sd C) : ∃ W : Nat → Nat → Bool, CVq b n gr C W := by
  have G0 := G.1
  refine ⟨fun k i => nWf b (gr.2.1 4) (gr.2.1 5) C 210 k i, fun j k i hj => ?_, fun k i kb kC => ?_, fun g i hg gC => ?_⟩
  · show ((ixI C (k : Int)).map (fun j => i.testBit j)).getD _ = _
    rw [ix_s hC hj]; rfl
  · show ((ixI C (k : Int)).map (fun j => i.testBit j)).getD (if k < b then false else _) = _
    rw [ix_n kC, if_pos kb]; rfl
  · have c := Gch G (show b ≤ b + g by omega) (by omega)
    show ((ixI C ((b + g : Nat) : Int)).map (fun j => i.testBit j)).getD (if b + g < b then false else lvq (nWf b (gr.2.1 4) (gr.2.1 5) C 209) (gr.2.1 4 (b + g)) i && lvq (nWf b (gr.2.1 4) (gr.2.1 5) C 209) (gr.2.1 5 (b + g)) i) = _
    rw [ix_n gC, if_neg (by omega)]
    show (lvq (nWf b (gr.2.1 4) (gr.2.1 5) C 209) (gr.2.1 4 (b + g)) i && lvq (nWf b (gr.2.1 4) (gr.2.1 5) C 209) (gr.2.1 5 (b + g)) i) = _
    unfold lvq
    rw [nWf_e G 209 210 _ i (by omega) (by omega) (by omega), nWf_e G 209 210 ((gr.2.1 5 (b + g)).toInt.toNat / 2) i (by omega) (by omega) (by omega)]
