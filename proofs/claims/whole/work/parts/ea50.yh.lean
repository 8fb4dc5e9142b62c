theorem CV_u {b n : Nat} {gr : cf_O} {C : List Int} {W V : Nat → Nat → Bool} (G : GW b n gr) (hV : CVq b n gr C W) (hU : CVq b n gr C V) : ∀ (f x i : Nat), x < f → x < b + n → W x i = V x i
  | 0, x, i, hf, _ => absurd hf (Nat.not_lt_zero _)
  | f + 1, x, i, hf, hx => by
    by_cases m : (x : Int) ∈ C
    · obtain ⟨k, hk⟩ := List.mem_iff_getElem?.mp m
      rw [hV.1 k x i hk, hU.1 k x i hk]
    · by_cases l : x < b
      · rw [hV.2.1 x i l m, hU.2.1 x i l m]
      · obtain ⟨g, eg⟩ : ∃ g : Nat, x = b + g := ⟨x - b, by omega⟩
        subst eg
        rw [hV.2.2 g i (by omega) m, hU.2.2 g i (by omega) m]
        have ch := Gch G (show b ≤ b + g by omega) hx
        unfold lvq
        rw [CV_u G hV hU f ((gr.2.1 4 (b + g)).toInt.toNat / 2) i (by omega) (by omega), CV_u G hV hU f ((gr.2.1 5 (b + g)).toInt.toNat / 2) i (by omega) (by omega)]
def FcQ (c : Nat) (fa : Nat → Int32) : Prop := c ≤ 12 ∧ ∀ i : Nat, i < c → (0 ≤ (fa (4 * i)).toInt ∧ (fa (4 * i)).toInt ≤ 999) ∧ (1 ≤ (fa (4 * i + 1)).toInt ∧ (fa (4 * i + 1)).toInt ≤ 99) ∧ (1 ≤ (fa (4 * i + 2)).toInt ∧ (fa (4 * i + 2)).toInt ≤ 3) ∧ (0 ≤ (fa (4 * i + 3)).toInt ∧ (fa (4 * i + 3)).toInt < 256)
theorem LRq_F {c : Nat} {li : cf_O} {fa : Nat → Int32} (h : LRq c li fa) : FcQ c fa := ⟨h.1.2, fun i hi => (h.2 i hi).2⟩
theorem FcQ_a {c : Nat} {fa : Nat → Int32} (h : FcQ c fa) : ArQ c fa := ⟨h.1, fun i hi => (h.2 i hi).1⟩
def CwS (b n : Nat) (gr : cf_O) (fa : Nat → Int32) (mt : Nat → Option Nat) (C : List Int) (cl l x : Nat) : Prop := ∃ W : Nat → Nat → Bool, CVq b n gr C W ∧ (fa (4 * cl + 2)).toInt = (C.length : Int) ∧ ∃ p : Nat, p < 8 ^ C.length ∧ eoB C.length p = true ∧ CdQ fa mt C cl C.length (LtF W l) p x
theorem CwS_w {b n cl l x : Nat} {gr : cf_O} {fa : Nat → Int32} {mt : Nat → Option Nat} {C : List Int} {W : Nat → Nat → Bool} (G : GW b n gr) (hV : CVq b n gr C W) (es : (fa (4 * cl + 2)).toInt = (C.length : Int)) (hl : l / 2 < b + n) : (∃ p : Nat, p < 8 ^ C.length ∧ eoB C.length p = true ∧ CdQ fa mt C cl C.length (LtF W l) p x) ↔ CwS b n gr fa mt C cl l x := by
  constructor
  · exact fun h => ⟨W, hV, es, h⟩
  · rintro ⟨V, hU, _, p, h1, h2, a, h3, h4, h5⟩
    refine ⟨p, h1, h2, a, h3, fun i hi => ?_, h5⟩
    rw [h4 i hi]
    unfold LtF
    rw [CV_u G hV hU (l / 2 + 1) (l / 2) i (by omega) hl]
def PlX (b n g c : Nat) (mt : Nat → Option Nat) (gr om : cf_O) : Prop := GW b n gr ∧ RGq b n gr om ∧ (b ≤ g ∧ g < b + n) ∧ (0 ≤ (om.2.1 57 g).toInt ∧ (om.2.1 57 g).toInt ≤ 300) ∧ (∀ j : Nat, (j : Int) < (om.2.1 57 g).toInt → (2 ≤ (cutL (om.2.1 59) (om.2.1 58) (301 * g + j)).length ∧ (cutL (om.2.1 59) (om.2.1 58) (301 * g + j)).length ≤ 3) ∧ Sd (cutL (om.2.1 59) (om.2.1 58) (301 * g + j)) ∧ ∀ z ∈ cutL (om.2.1 59) (om.2.1 58) (301 * g + j), 1 ≤ z ∧ z < (g : Int)) ∧ RmT b om mt g ∧ FcQ c (om.2.1 84) ∧ (om.1 82).toInt = (c : Int)
theorem PlX_f {b n g c : Nat} {mt : Nat → Option Nat} {gr om om2 : cf_O} (h : PlX b n g c mt gr om) (f : Fr (fr_M [] [88, 89, 90, 91, 98] []) om om2) : PlX b n g c mt gr om2 := by
  obtain ⟨h1, h2, h3, h4, h5, h6, h7, h8⟩ := h
  unfold PlX
  rw [f.2.1 57 rfl, f.2.1 58 rfl, f.2.1 59 rfl, f.2.1 84 rfl, f.1 82 rfl]
  exact ⟨h1, RGq_f h2 (f.1 39 rfl) (f.1 40 rfl) (f.1 43 rfl) (f.2.1 44 rfl) (f.2.1 45 rfl) (f.2.1 46 rfl) (f.2.1 47 rfl), h3, h4, h5, RmT_f h6 (f.2.1 86 rfl) (f.2.1 87 rfl), h7, h8⟩
def PmS (j k : Nat) (D : Nat → Nat → Nat → Nat → Prop) (c l x : Nat) : Prop := ∃ j' cl : Nat, (j' < j ∨ (j' = j ∧ cl < k)) ∧ cl < c ∧ D j' cl l x
theorem PmS_0 {D : Nat → Nat → Nat → Nat → Prop} {c l x : Nat} : ¬ PmS 0 0 D c l x := fun ⟨_, _, h, _⟩ => by omega
theorem PmS_n {j : Nat} {D : Nat → Nat → Nat → Nat → Prop} {c l x : Nat} : PmS j c D c l x ↔ PmS (j + 1) 0 D c l x := by
  constructor
  · rintro ⟨j', cl, h1, h2⟩; exact ⟨j', cl, by omega, h2⟩
  · rintro ⟨j', cl, h1, h2, h3⟩; exact ⟨j', cl, by omega, h2, h3⟩
theorem PmS_s {j k : Nat} {D : Nat → Nat → Nat → Nat → Prop} {c l x : Nat} (hk : k < c) : (PmS j k D c l x ∨ D j k l x) ↔ PmS j (k + 1) D c l x := by
  constructor
  · rintro (⟨j', cl, h1, h2⟩ | h)
    · exact ⟨j', cl, by omega, h2⟩
    · exact ⟨j, k, by omega, hk, h⟩
  · rintro ⟨j', cl, h1, h2, h3⟩
    by_cases e : j' = j ∧ cl = k
    · obtain ⟨e1, e2⟩ := e
      subst e1; subst e2
      exact Or.inr h3
    · exact Or.inl ⟨j', cl, by omega, h2, h3⟩
def GdD (b n g : Nat) (gr om : cf_O) (mt : Nat → Option Nat) : Nat → Nat → Nat → Nat → Prop := fun j cl l x => CwS b n gr (om.2.1 84) mt (cutL (om.2.1 59) (om.2.1 58) (301 * g + j)) cl l x
theorem pl_go {b n g c : Nat} {mt : Nat → Option Nat} {gr OM : cf_O} {v1 : Int32} (X : PlX b n g c mt gr OM) (e1 : v1.toInt = (g : Int)) : ∀ fu : Nat,
    (∀ (j : Nat) (v2 w3 : Int32) (om r : cf_O), v2.toInt = ((301 * g + j : Nat) : Int) → (j : Int) ≤ (OM.2.1 57 g).toInt → Fr (fr_M [] [88, 89, 90, 91, 98] []) OM om → OtQ OM om g → StQ om g c (fun l x => PmS j 0 (GdD b n g gr OM mt) c l x) → gM_plainMatches fu 0 v1 v2 w3 om = some r → StQ r g c (fun l x => PmS (OM.2.1 57 g).toInt.toNat 0 (GdD b n g gr OM mt) c l x) ∧ OtQ OM r g) ∧
    (∀ (j k : Nat) (v2 v3 : Int32) (om r : cf_O) (W : Nat → Nat → Bool), v2.toInt = ((301 * g + j : Nat) : Int) → (j : Int) < (OM.2.1 57 g).toInt → v3.toInt = (k : Int) → k ≤ c → CVq b n gr (cutL (OM.2.1 59) (OM.2.1 58) (301 * g + j)) W → (∀ k : Nat, k ≤ g → MkE (om.2.1 91 k) (W k)) → Fr (fr_M [] [88, 89, 90, 91, 98] []) OM om → OtQ OM om g → StQ om g c (fun l x => PmS j k (GdD b n g gr OM mt) c l x) → gM_plainMatches fu 1 v1 v2 v3 om = some r → StQ r g c (fun l x => PmS (OM.2.1 57 g).toInt.toNat 0 (GdD b n g gr OM mt) c l x) ∧ OtQ OM r g)
  | 0 => ⟨fun _ _ _ _ _ _ _ _ _ _ h => (by cases h), fun _ _ _ _ _ _ _ _ _ _ _ _ _ _ _ _ h => (by cases h)⟩
  | fu + 1 => by
    obtain ⟨i0, i1⟩ := pl_go X e1 fu
    have X0 := X
    obtain ⟨G, R, ⟨g1, g2⟩, cc, hr, T, hF, e82⟩ := X
    have G0 := G.1
    refine ⟨?_, ?_⟩
    · intro j v2 w3 om r e2 hj fo ot V h
      have h : fM_plainMatches_6 (gM_plainMatches fu) v1 v2 om = some r := h
      unfold fM_plainMatches_6 at h
      have m3 : (301 * v1).toInt = 301 * (g : Int) := by rw [Int32.toInt_mul, e1, show (301 : Int32).toInt = 301 from rfl, i_bm (by omega) (by omega)]
      rw [opk] at h
      have h := (ifn h).2
      rw [opk, opk, tW e1, fo.2.1 57 rfl] at h
      have ex : (301 * v1 + OM.2.1 57 g).toInt = 301 * (g : Int) + (OM.2.1 57 g).toInt := by rw [Int32.toInt_add, m3, i_bm (by omega) (by omega)]
      rcases ifc h with ⟨a, h⟩ | ⟨a, h⟩
      · have a := c_le a
        rw [← Option.some.inj h, show (OM.2.1 57 g).toInt.toNat = j by omega]
        exact ⟨V, ot⟩
      · have a := c_nle a
        obtain ⟨q, hq, h⟩ := bd h
        obtain ⟨⟨l2, l3⟩, sd, hz⟩ := hr j (by omega)
        obtain ⟨W, hV⟩ := CV_ex (b := b) (n := n) G sd
        have R1 := (PlX_f X0 fo).2.1
        have e59 : om.2.1 59 = OM.2.1 59 := fo.2.1 59 rfl
        have e58 : om.2.1 58 = OM.2.1 58 := fo.2.1 58 rfl
        have cl := cutL_len (OM.2.1 59) (OM.2.1 58) (301 * g + j)
        have C1 : CtM (301 * g + j) (cutL (OM.2.1 59) (OM.2.1 58) (301 * g + j)) om := by
          refine ⟨by omega, by rw [e59, e58], ?_, by omega⟩
          rw [e59]; omega
        have mk := maskAll_sp G R1 hV g2 e1 e2 C1 l3 hq
        have f := wF_M_maskAll hq
        refine i1 j 0 v2 0 q r W e2 (by omega) rfl (Nat.zero_le _) hV mk (fr_tr fo f rfl rfl rfl) (fun l hl => by rw [f.2.1 88 rfl]; exact ot l hl) (StQ_f V (f.2.1 88 rfl) (f.2.1 84 rfl) (f.2.1 89 rfl)) h
    · intro j k v2 v3 om r W e2 hj e3 hk hV mk fo ot V h
      have h : fM_plainMatches_30 (gM_plainMatches fu) v1 v2 v3 om = some r := h
      unfold fM_plainMatches_30 at h
      have p2 := pW (v := v2) (by omega) (by omega)
      have c12 := hF.1
      rw [fo.1 82 rfl] at h
      rcases ifc h with ⟨a, h⟩ | ⟨a, h⟩
      · have a := c_le a
        rw [opk] at h
        have ek : k = c := by omega
        subst ek
        exact i0 (j + 1) (v2 + 1) 0 om r (by omega) (by omega) fo ot (StQ_e V (fun l x _ => PmS_n)) h
      · have a := c_nle a
        have p3 := pW (v := v3) (by omega) (by omega)
        obtain ⟨⟨l2, l3⟩, sd, hz⟩ := hr j (by omega)
        have e59 : om.2.1 59 = OM.2.1 59 := fo.2.1 59 rfl
        have e58 : om.2.1 58 = OM.2.1 58 := fo.2.1 58 rfl
        have e84 : om.2.1 84 = OM.2.1 84 := fo.2.1 84 rfl
        have cl := cutL_len (OM.2.1 59) (OM.2.1 58) (301 * g + j)
        have C1 : CtM (301 * g + j) (cutL (OM.2.1 59) (OM.2.1 58) (301 * g + j)) om := by
          refine ⟨by omega, by rw [e59, e58], ?_, by omega⟩
          rw [e59]; omega
        have F1 := hF.2 k (by omega)
        rw [opk, opk, tW (addk (k := 2) (mul4 e3 (by omega)) rfl (by omega) (by decide))] at h
        have h := (ifn h).2
        rw [opk] at h
        have h := (ifn h).2
        rw [opk, tW e2, e84] at h
        have nx : ∀ q : cf_O, Fr (fr_M [] [88, 89, 90, 91, 98] []) OM q → OtQ OM q g → q.2.1 91 = om.2.1 91 → StQ q g c (fun l x => PmS j (k + 1) (GdD b n g gr OM mt) c l x) → fM_plainMatches_64 (gM_plainMatches fu) v1 v2 v3 q = some r → StQ r g c (fun l x => PmS (OM.2.1 57 g).toInt.toNat 0 (GdD b n g gr OM mt) c l x) ∧ OtQ OM r g := fun q fq oq m9 Vq z => by
          unfold fM_plainMatches_64 at z
          rw [opk] at z
          exact i1 j (k + 1) v2 (v3 + 1) q r W e2 hj (by omega) (by omega) hV (by rw [m9]; exact mk) fq oq Vq z
        rcases ifc h with ⟨d, h⟩ | ⟨d, h⟩
        · have d := c_eq d
          obtain ⟨q, hq, h⟩ := bd h
          have f := wF_M_tryCell hq
          have es : (OM.2.1 84 (4 * k + 2)).toInt = ((cutL (OM.2.1 59) (OM.2.1 58) (301 * g + j)).length : Int) := by rw [d]; rw [e59]; omega
          have Y : TcX b n g c k (301 * g + j) (cutL (OM.2.1 59) (OM.2.1 58) (301 * g + j)).length (cutL (OM.2.1 59) (OM.2.1 58) (301 * g + j)) W mt gr om := ⟨G, (PlX_f X0 fo).2.1, hV, ⟨g1, g2⟩, C1, ⟨rfl, l2, l3⟩, hz, (PlX_f X0 fo).2.2.2.2.2.1, mk, by omega, by rw [e84]; exact es, by rw [e84]; exact FcQ_a hF, by rw [e84]; exact F1.2.1, by rw [e84]; exact F1.2.2.2.1⟩
          obtain ⟨y1, y2⟩ := tryCell_sp Y e1 e2 e3 V hq
          refine nx q (fr_tr fo f rfl rfl rfl) (fun l hl => by rw [y2 l hl]; exact ot l hl) (f.2.1 91 rfl) (StQ_e y1 (fun l x hl => ?_)) h
          rw [← PmS_s (show k < c by omega), e84]
          refine or_congr Iff.rfl ?_
          exact CwS_w G hV es (by omega)
        · refine nx om fo ot rfl (StQ_e V (fun l x hl => ?_)) h
          rw [← PmS_s (show k < c by omega)]
          refine ⟨Or.inl, fun w => w.resolve_right ?_⟩
          rintro ⟨_, _, es, _⟩
          refine d (Int32.toInt_inj.mp ?_)
          rw [es, e59]; omega
theorem plain_sp {b n g c : Nat} {mt : Nat → Option Nat} {gr om r : cf_O} {v1 : Int32} (X : PlX b n g c mt gr om) (e1 : v1.toInt = (g : Int)) (h0 : om.2.1 88 (2 * g) = 0) (h1 : om.2.1 88 (2 * g + 1) = 0) (h : fM_plainMatches v1 om = some r) : StQ r g c (fun l x => ∃ C ∈ rowL (om.2.1 57) (om.2.1 59) (om.2.1 58) g, ∃ cl : Nat, cl < c ∧ CwS b n gr (om.2.1 84) mt C cl l x) ∧ OtQ om r g := by
  unfold fM_plainMatches fM_plainMatches_0 at h
  have X0 := X
  obtain ⟨G, R, ⟨g1, g2⟩, cc, hr, T, hF, e82⟩ := X
  have G0 := G.1
  have m3 : (301 * v1).toInt = ((301 * g + 0 : Nat) : Int) := by rw [Int32.toInt_mul, e1, show (301 : Int32).toInt = 301 from rfl, i_bm (by omega) (by omega)]; omega
  rw [opk] at h
  have V : StQ om g c (fun l x => PmS 0 0 (GdD b n g gr om mt) c l x) := fun l hl => by
    refine ⟨NOM, Or.inl ⟨?_, rfl⟩, MnQ_e MnQ_0 (fun x => ⟨fun q => q.elim, fun q => (PmS_0 q).elim⟩)⟩
    rcases (show l = 2 * g ∨ l = 2 * g + 1 by omega) with e | e
    · rw [e]; exact h0
    · rw [e]; exact h1
  obtain ⟨y1, y2⟩ := (pl_go X0 e1 cfFU).1 0 _ 0 om r m3 cc.1 fr_rfl (fun _ _ => rfl) V h
  refine ⟨StQ_e y1 (fun l x hl => ?_), y2⟩
  constructor
  · rintro ⟨j, cl, h1, h2, h3⟩
    exact ⟨_, row_m.mpr ⟨j, by omega, rfl⟩, cl, h2, h3⟩
  · rintro ⟨C, hC, cl, h2, h3⟩
    obtain ⟨j, hj, e⟩ := row_m.mp hC
    subst e
    exact ⟨j, cl, Or.inl (by omega), h2, h3⟩
