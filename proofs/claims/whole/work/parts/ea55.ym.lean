theorem eo_sp {v w q : Int32} {p s : Nat} (ev : v.toInt = (p : Int)) (ew : w.toInt = (s : Int)) (h2 : 2 ≤ s) (h3 : s ≤ 3) (hp : p < 8 ^ s) (h : fLi_isEachOnce v w = some q) : q = bI (eoB s p) := by
  rw [on_i ev, on_i ew] at h
  rcases (show s = 2 ∨ s = 3 by omega) with e | e
  · subst e
    have := eo_c2 p hp
    rw [show (Int32.ofNat 2) = (2 : Int32) from rfl, this] at h
    exact (Option.some.inj h).symm
  · subst e
    have := eo_c3 p hp
    rw [show (Int32.ofNat 3) = (3 : Int32) from rfl, this] at h
    exact (Option.some.inj h).symm
theorem x8_i {v : Int32} {s : Nat} (ev : v.toInt = (s : Int)) (h2 : 2 ≤ s) (h3 : s ≤ 3) : ((1 : Int32) <<< ((3 * v) &&& 31)).toInt = ((8 ^ s : Nat) : Int) ∧ 8 ^ s ≤ 512 := by
  rw [on_i ev]
  rcases (show s = 2 ∨ s = 3 by omega) with e | e
  · subst e; exact ⟨by decide, by decide⟩
  · subst e; exact ⟨by decide, by decide⟩
def DwS (li : cf_O) (i p0 cl p : Nat) : Prop := (cl < i ∨ (cl = i ∧ p < p0)) ∧ ∃ s : Nat, (li.2.1 5 cl).toInt = (s : Int) ∧ 2 ≤ s ∧ s ≤ 3 ∧ p < 8 ^ s ∧ eoB s p = true
def LiP (li : cf_O) (c : Nat) : Prop := ((li.1 0).toInt = (c : Int) ∧ c ≤ 12) ∧ ∀ i : Nat, i < c → (1 ≤ (li.2.1 5 i).toInt ∧ (li.2.1 5 i).toInt ≤ 3) ∧ 0 ≤ (li.2.1 6 i).toInt
theorem DwS_n {li : cf_O} {i p0 cl p : Nat} (h : ∀ s : Nat, (li.2.1 5 i).toInt = (s : Int) → 2 ≤ s → 8 ^ s ≤ p0) : DwS li i p0 cl p ↔ DwS li (i + 1) 0 cl p := by
  constructor
  · rintro ⟨h1, h2⟩; exact ⟨by omega, h2⟩
  · rintro ⟨h1, s, h2, h3, h4, h5, h6⟩
    refine ⟨?_, s, h2, h3, h4, h5, h6⟩
    by_cases e : cl = i
    · subst e
      exact Or.inr ⟨rfl, Nat.lt_of_lt_of_le h5 (h s h2 h3)⟩
    · exact Or.inl (by omega)
theorem DwS_0 {li : cf_O} {i p0 s : Nat} (es : (li.2.1 5 i).toInt = (s : Int)) (he : eoB s p0 = false) {cl p : Nat} : DwS li i p0 cl p ↔ DwS li i (p0 + 1) cl p := by
  constructor
  · rintro ⟨h1, h2⟩; exact ⟨by omega, h2⟩
  · rintro ⟨h1, t, h2, h3, h4, h5, h6⟩
    refine ⟨?_, t, h2, h3, h4, h5, h6⟩
    by_cases e : cl = i ∧ p = p0
    · obtain ⟨e1, e2⟩ := e
      subst e1; subst e2
      have : t = s := by omega
      subst this
      rw [he] at h6; cases h6
    · omega
theorem DwS_1 {li : cf_O} {i p0 s : Nat} (es : (li.2.1 5 i).toInt = (s : Int)) (h2 : 2 ≤ s) (h3 : s ≤ 3) (hp : p0 < 8 ^ s) (he : eoB s p0 = true) {cl p : Nat} : (DwS li i p0 cl p ∨ (cl = i ∧ p = p0)) ↔ DwS li i (p0 + 1) cl p := by
  constructor
  · rintro (⟨h1, h2⟩ | ⟨e1, e2⟩)
    · exact ⟨by omega, h2⟩
    · subst e1; subst e2
      exact ⟨Or.inr ⟨rfl, by omega⟩, s, es, h2, h3, hp, he⟩
  · rintro ⟨h1, t⟩
    by_cases e : cl = i ∧ p = p0
    · exact Or.inr e
    · exact Or.inl ⟨by omega, t⟩
theorem fws_go {c : Nat} {O : cf_O} (L : LiP O c) : ∀ fu : Nat,
    (∀ (i m : Nat) (v1 w2 : Int32) (o r : cf_O), v1.toInt = (i : Int) → i ≤ c → Fr (fr_M [7] [8, 9, 10, 11] []) O o → LwQ o m (DwS O i 0) → gLi_findWays fu 0 v1 w2 o = some r → ∃ m : Nat, LwQ r m (DwS O c 0)) ∧
    (∀ (i p m : Nat) (v1 v2 : Int32) (o r : cf_O), v1.toInt = (i : Int) → i < c → v2.toInt = (p : Int) → p ≤ 512 → Fr (fr_M [7] [8, 9, 10, 11] []) O o → LwQ o m (DwS O i p) → gLi_findWays fu 1 v1 v2 o = some r → ∃ m : Nat, LwQ r m (DwS O c 0))
  | 0 => ⟨fun _ _ _ _ _ _ _ _ _ _ h => (by cases h), fun _ _ _ _ _ _ _ _ _ _ _ _ _ h => (by cases h)⟩
  | fu + 1 => by
    obtain ⟨i0, i1⟩ := fws_go L fu
    obtain ⟨⟨l0, l1⟩, l2⟩ := L
    refine ⟨?_, ?_⟩
    · intro i m v1 w2 o r e1 hi fo W h
      have h : fLi_findWays_15 (gLi_findWays fu) v1 o = some r := h
      unfold fLi_findWays_15 at h
      rw [fo.1 0 rfl] at h
      rcases ifc h with ⟨a, h⟩ | ⟨a, h⟩
      · have a := c_le a
        have : i = c := by omega
        subst this
        rw [← Option.some.inj h]
        exact ⟨m, W⟩
      · have a := c_nle a
        exact i1 i 0 m v1 0 o r e1 (by omega) rfl (by decide) fo W h
    · intro i p m v1 v2 o r e1 hi e2 hp fo W h
      have h : fLi_findWays_25 (gLi_findWays fu) v1 v2 o = some r := h
      unfold fLi_findWays_25 at h
      have h := (ifn h).2
      obtain ⟨⟨b1, b2⟩, b3⟩ := l2 i hi
      have e5 : o.2.1 5 = O.2.1 5 := fo.2.1 5 rfl
      have e6 : o.2.1 6 = O.2.1 6 := fo.2.1 6 rfl
      rw [opk, tW e1, e5] at h
      have p1 := pW (v := v1) (by omega) (by omega)
      have p2 := pW (v := v2) (by omega) (by omega)
      have n74 : LwQ o m (DwS O (i + 1) 0) → fLi_findWays_74 (gLi_findWays fu) v1 o = some r → ∃ m : Nat, LwQ r m (DwS O c 0) := fun W2 z => by
        unfold fLi_findWays_74 at z
        rw [opk] at z
        exact i0 (i + 1) m (v1 + 1) 0 o r (by omega) (by omega) fo W2 z
      rcases ifc h with ⟨a, h⟩ | ⟨a, h⟩
      · have a : (O.2.1 5 i).toInt ≤ 1 := c_le a
        exact n74 (LwQ_e W (fun cl q => DwS_n (fun s es h2 => by omega))) h
      · have a : 1 < (O.2.1 5 i).toInt := c_nle a
        obtain ⟨s, es⟩ : ∃ s : Nat, (O.2.1 5 i).toInt = (s : Int) := ⟨(O.2.1 5 i).toInt.toNat, by omega⟩
        have x8 := x8_i es (by omega) (by omega)
        have h := (ifn h).2
        rw [opk, opk, opk] at h
        rcases ifc h with ⟨d, h⟩ | ⟨d, h⟩
        · have d := c_le d
          rw [x8.1] at d
          exact n74 (LwQ_e W (fun cl q => DwS_n (fun t et h2 => by have : t = s := by omega
                                                                   subst this; omega))) h
        · have d := c_nle d
          rw [x8.1] at d
          have h := (ifn h).2
          rw [opk] at h
          obtain ⟨q, hq, h⟩ := bd h
          have eq := eo_sp e2 es (by omega) (by omega) (by omega) hq
          rcases ifc h with ⟨z, h⟩ | ⟨z, h⟩
          · rw [eq] at z
            have z := bI_0.mp z
            unfold fLi_findWays_68 at h
            rw [opk] at h
            exact i1 i (p + 1) m v1 (v2 + 1) o r e1 hi (by omega) (by omega) fo (LwQ_e W (fun cl q => DwS_0 es z)) h
          · rw [eq] at z
            have z : eoB s p = true := by
              cases y : eoB s p with
              | true => rfl
              | false => rw [y] at z; exact absurd rfl z
            obtain ⟨u, hu, h⟩ := bd h
            unfold fLi_findWays_68 at h
            rw [opk] at h
            have W2 := aw_st W e1 e2 (by omega) (by rw [e5]; exact es) (by omega) (by omega) (by rw [e6]; exact b3) hu
            exact i1 i (p + 1) (m + 1) v1 (v2 + 1) u r e1 hi (by omega) (by omega) (fr_tr fo (wF_Li_addWay_o0 hu) rfl rfl rfl) (LwQ_e W2 (fun cl q => DwS_1 es (by omega) (by omega) (by omega) z)) h
theorem fi11_go {v : Int32} : ∀ (fuel : Nat) (v2 : Int32) (o r : cf_O), 0 ≤ v2.toInt → v2.toInt ≤ 512 → (∀ j : Nat, (j : Int) < v2.toInt → o.2.1 11 j = v) → gJArrays_fill_AII_Li11 fuel 0 v v2 512 o = some r → ∀ j : Nat, j < 512 → r.2.1 11 j = v
  | 0, v2, o, r, h0, h1, hz, h => by cases h
  | fuel + 1, v2, o, r, h0, h1, hz, h => by
    rcases ifc h with ⟨a, h⟩ | ⟨a, h⟩
    · have a : (512 : Int) ≤ v2.toInt := c_le a
      rw [← Option.some.inj h]
      exact fun j hj => hz j (by omega)
    · have a : v2.toInt < 512 := c_nle a
      have vi : v2.toNatClampNeg = v2.toInt.toNat := by have := tn_n v2; omega
      have e2 := pW (v := v2) h0 (by omega)
      have h := (ifn h).2
      rw [vi] at h
      refine fi11_go fuel (v2 + 1) (xp o 11 v2.toInt.toNat v) r (by omega) (by omega) (fun j hj => ?_) h
      show upd (o.2.1 11) v2.toInt.toNat v j = v
      by_cases e : j = v2.toInt.toNat
      · rw [e, up_s]
      · rw [up_o e]; exact hz j (by omega)
theorem findWays_sp {c : Nat} {o r : cf_O} (L : LiP o c) (h : fLi_findWays o = some r) : ∃ m : Nat, LwQ r m (DwS o c 0) := by
  unfold fLi_findWays fLi_findWays_0 at h
  rw [opk] at h
  obtain ⟨q, hq, h⟩ := bd h
  have fq := wF_JArrays_fill_AII_Li11_o0 hq
  unfold fJArrays_fill_AII_Li11 fJArrays_fill_AII_Li11_0 at hq
  have z := fi11_go cfFU 0 _ q (by decide) (by decide) (fun j hj => absurd hj (by show ¬ (j : Int) < 0; omega)) hq
  have f2 : Fr (fr_M [7] [8, 9, 10, 11] []) o q := fr_tr (fr_fp fr_rfl rfl) fq rfl rfl rfl
  refine (fws_go L cfFU).1 0 0 0 0 q r rfl (Nat.zero_le _) f2 ⟨⟨by rw [fq.1 7 rfl]; rfl, by decide⟩, fun w hw => absurd hw (by omega), fun cl p hd => ?_, fun x hx => ⟨[], z x hx, by decide, fun w => ⟨fun y => absurd y (List.not_mem_nil), fun y => absurd y.1 (by omega)⟩⟩⟩ h
  obtain ⟨q1, _⟩ := hd
  omega
def faL (li : cf_O) (k : Nat) : Int32 := if k % 4 = 0 then li.2.1 3 (k / 4) else if k % 4 = 1 then li.2.1 4 (k / 4) else if k % 4 = 2 then li.2.1 5 (k / 4) else li.2.1 6 (k / 4)
theorem faL_0 {li : cf_O} {i : Nat} : faL li (4 * i) = li.2.1 3 i ∧ faL li (4 * i + 1) = li.2.1 4 i ∧ faL li (4 * i + 2) = li.2.1 5 i ∧ faL li (4 * i + 3) = li.2.1 6 i := by
  unfold faL
  refine ⟨?_, ?_, ?_, ?_⟩
  · rw [if_pos (by omega), show 4 * i / 4 = i by omega]
  · rw [if_neg (by omega), if_pos (by omega), show (4 * i + 1) / 4 = i by omega]
  · rw [if_neg (by omega), if_neg (by omega), if_pos (by omega), show (4 * i + 2) / 4 = i by omega]
  · rw [if_neg (by omega), if_neg (by omega), if_neg (by omega), show (4 * i + 3) / 4 = i by omega]
def ivI (o : Option Nat) : Int32 := o.elim (-1) (fun j => Int32.ofNat j)
theorem qk_sp {li : cf_O} {i j : Nat} {v1 v2 q : Int32} (e1 : v1.toInt = (i : Int)) (e2 : v2.toInt = (j : Int)) (h : fLi_isQuicker v1 v2 li = some q) : q = bI (qkR (faL li) i j) := by
  unfold qkR
  rw [(faL_0 (li := li) (i := i)).2.1, (faL_0 (li := li) (i := j)).2.1, (faL_0 (li := li) (i := i)).1, (faL_0 (li := li) (i := j)).1]
  unfold fLi_isQuicker fLi_isQuicker_0 at h
  have h := (ifn h).2
  rw [opk, tW e1] at h
  have h := (ifn h).2
  rw [opk, tW e2] at h
  rcases ifc h with ⟨a, h⟩ | ⟨a, h⟩
  · have a := c_lt a
    unfold fLi_isQuicker_45 fLi_isQuicker_50 at h
    rw [b01_sp h, decide_eq_true a]; rfl
  · have a := c_nlt a
    have h := (ifn h).2
    rw [opk] at h
    have h := (ifn h).2
    rw [opk] at h
    rw [decide_eq_false (by omega), Bool.false_or]
    rcases ifc h with ⟨d, h⟩ | ⟨d, h⟩
    · rw [d, decide_eq_true rfl, Bool.true_and]
      have h := (ifn h).2
      rw [opk] at h
      have h := (ifn h).2
      rw [opk] at h
      rcases ifc h with ⟨y, h⟩ | ⟨y, h⟩
      · have y := c_le y
        unfold fLi_isQuicker_49 fLi_isQuicker_50 at h
        rw [b01_sp h, decide_eq_false (by omega)]; rfl
      · have y := c_nle y
        unfold fLi_isQuicker_45 fLi_isQuicker_50 at h
        rw [b01_sp h, decide_eq_true (by omega)]; rfl
    · rw [decide_eq_false (fun z => d (Int32.toInt_inj.mp z)), Bool.false_and]
      unfold fLi_isQuicker_49 fLi_isQuicker_50 at h
      rw [b01_sp h]; rfl
theorem fvt_go {c : Nat} {O : cf_O} (L : LiP O c) : ∀ (fu i : Nat) (v1 : Int32) (o r : cf_O), v1.toInt = (i : Int) → i ≤ c → Fr (fr_M [1] [] []) O o → o.1 1 = ivI (ivN (faL O) i) → gLi_findInverter fu 0 v1 o = some r → r.1 1 = ivI (ivN (faL O) c)
  | 0, i, v1, o, r, e1, hi, fo, H, h => by cases h
  | fu + 1, i, v1, o, r, e1, hi, fo, H, h => by
    have h : fLi_findInverter_7 (gLi_findInverter fu) v1 o = some r := h
    unfold fLi_findInverter_7 at h
    have L0 := L
    obtain ⟨⟨l0, l1⟩, l2⟩ := L
    rw [fo.1 0 rfl] at h
    have f0 := faL_0 (li := O) (i := i)
    rcases ifc h with ⟨a, h⟩ | ⟨a, h⟩
    · have a := c_le a
      have : i = c := by omega
      subst this
      rw [← Option.some.inj h]; exact H
    · have a := c_nle a
      have p1 := pW (v := v1) (by omega) (by omega)
      have n60 : ∀ o2 : cf_O, Fr (fr_M [1] [] []) O o2 → o2.1 1 = ivI (ivN (faL O) (i + 1)) → fLi_findInverter_60 (gLi_findInverter fu) v1 o2 = some r → r.1 1 = ivI (ivN (faL O) c) := fun o2 f2 H2 z => by
        unfold fLi_findInverter_60 at z
        rw [opk] at z
        exact fvt_go L0 fu (i + 1) (v1 + 1) o2 r (by omega) (by omega) f2 H2 z
      have no : ¬ isV (faL O) i = true → ivN (faL O) (i + 1) = ivN (faL O) i := fun nv => by
        show (if isV (faL O) i = true then _ else ivN (faL O) i) = _
        rw [if_neg nv]
      have h := (ifn h).2
      rw [opk, tW e1, fo.2.1 5 rfl] at h
      rcases ifc h with ⟨y1, h⟩ | ⟨y1, h⟩
      case inr =>
        refine n60 o fo ?_ h
        rw [no (fun z => y1 (Int32.toInt_inj.mp ?_))]
        · exact H
        · unfold isV at z
          rw [f0.2.2.1] at z
          exact of_decide_eq_true (Bool.and_eq_true _ _ ▸ z : _ ∧ _).1
      have h := (ifn h).2
      rw [opk, fo.2.1 6 rfl] at h
      rcases ifc h with ⟨y2, h⟩ | ⟨y2, h⟩
      case inr =>
        refine n60 o fo ?_ h
        rw [no (fun z => y2 (Int32.toInt_inj.mp ?_))]
        · exact H
        · unfold isV at z
          rw [f0.2.2.2] at z
          exact of_decide_eq_true (Bool.and_eq_true _ _ ▸ z : _ ∧ _).2
      have iv : isV (faL O) i = true := by
        unfold isV
        rw [f0.2.2.1, f0.2.2.2, y1, y2]; rfl
      have es := ivN_s iv
      have set : ivN (faL O) (i + 1) = some i → fLi_findInverter_55 (gLi_findInverter fu) v1 o = some r → r.1 1 = ivI (ivN (faL O) c) := fun e z => by
        unfold fLi_findInverter_55 at z
        rw [opk] at z
        refine n60 (fp o 1 v1) (fr_fp fo rfl) ?_ z
        rw [e]; exact on_i e1
      cases e : ivN (faL O) i with
      | none =>
        rw [e] at es H
        rw [if_pos (show o.1 1 = -1 from H)] at h
        exact set es h
      | some j =>
        rw [e] at es H
        have jl := (ivN_l e).1
        have H : o.1 1 = Int32.ofNat j := H
        have ej : (o.1 1).toInt = (j : Int) := by rw [H, Int32.toInt_ofNat_of_lt (by omega)]
        rw [if_neg (fun z => by have z := c_eq z; rw [ej, show ((-1 : Int32)).toInt = -1 from rfl] at z; omega)] at h
        obtain ⟨q, hq, h⟩ := bd h
        have eq := qk_sp e1 ej hq
        have ef : faL o = faL O := by
          funext k
          unfold faL
          rw [fo.2.1 3 rfl, fo.2.1 4 rfl, fo.2.1 5 rfl, fo.2.1 6 rfl]
        rw [ef] at eq
        have es : ivN (faL O) (i + 1) = (if qkR (faL O) i j = true then some i else some j) := es
        rcases ifc h with ⟨z, h⟩ | ⟨z, h⟩
        · rw [eq] at z
          have z := bI_0.mp z
          refine n60 o fo ?_ h
          rw [es, z, if_neg (by decide)]; exact H
        · rw [eq] at z
          have z : qkR (faL O) i j = true := by
            cases y : qkR (faL O) i j with
            | true => rfl
            | false => rw [y] at z; exact absurd rfl z
          rw [z, if_pos rfl] at es
          exact set es h
def LwI (li : cf_O) : Prop := ∃ c m : Nat, (li.1 0).toInt = (c : Int) ∧ LwQ li m (DwS li c 0) ∧ li.1 1 = ivI (ivN (faL li) c)
theorem lw_sp {c : Nat} {o q r : cf_O} (L : LiP o c) (h1 : fLi_findInverter o = some q) (h2 : fLi_findWays q = some r) : LwI r := by
  have f1 := wF_Li_findInverter_o0 h1
  have f2 := wF_Li_findWays_o0 h2
  have L1 : LiP q c := by
    unfold LiP
    rw [f1.1 0 rfl, f1.2.1 5 rfl, f1.2.1 6 rfl]; exact L
  obtain ⟨m, W⟩ := findWays_sp L1 h2
  refine ⟨c, m, by rw [f2.1 0 rfl, f1.1 0 rfl]; exact L.1.1, LwQ_e W (fun cl p => ?_), ?_⟩
  · unfold DwS
    rw [f2.2.1 5 rfl]
  · have ef : faL r = faL o := by
      funext k
      unfold faL
      rw [f2.2.1 3 rfl, f2.2.1 4 rfl, f2.2.1 5 rfl, f2.2.1 6 rfl, f1.2.1 3 rfl, f1.2.1 4 rfl, f1.2.1 5 rfl, f1.2.1 6 rfl]
    rw [f2.1 1 rfl, ef]
    unfold fLi_findInverter fLi_findInverter_0 at h1
    rw [opk] at h1
    exact fvt_go L cfFU 0 0 (fp o 1 (-1)) q rfl (Nat.zero_le _) (fr_fp fr_rfl rfl) rfl h1
theorem scan_0 : ∀ (fu : Nat) (v2 v3 : Int32) (o0 o1 : cf_O) (r : Int32 × cf_O × cf_O), gLi_scan fu 0 v2 v3 o0 o1 = some r → r.1 = 0 → ∃ o q : cf_O, fLi_findInverter o = some q ∧ fLi_findWays q = some r.2.1
  | 0, v2, v3, o0, o1, r, h, _ => by cases h
  | fu + 1, v2, v3, o0, o1, r, h, e => by
    have h : fLi_scan_13 (gLi_scan fu) v2 v3 o0 o1 = some r := h
    unfold fLi_scan_13 at h
    have k64 : ∀ (o0 o1 : cf_O), fLi_scan_64 (gLi_scan fu) v2 o0 o1 = some r → ∃ o q : cf_O, fLi_findInverter o = some q ∧ fLi_findWays q = some r.2.1 := fun o0 o1 z => by
      unfold fLi_scan_64 at z
      rcases ifc z with ⟨_, z⟩ | ⟨_, z⟩
      · rw [← Option.some.inj z] at e; exact absurd (show (1 : Int32) = 0 from e) (by decide)
      · obtain ⟨q, hq, z⟩ := bd z
        obtain ⟨u, hu, z⟩ := bd z
        refine ⟨o0, q, hq, ?_⟩
        rw [← Option.some.inj z]; exact hu
    have k40 : ∀ (s : Int32) (o0 o1 : cf_O), fLi_scan_40 (gLi_scan fu) v3 s o0 o1 = some r → ∃ o q : cf_O, fLi_findInverter o = some q ∧ fLi_findWays q = some r.2.1 := fun s o0 o1 z => by
      unfold fLi_scan_40 at z
      rcases ifc z with ⟨_, z⟩ | ⟨y, z⟩
      · obtain ⟨q, hq, z⟩ := bd z
        rw [opk] at z
        exact scan_0 fu _ _ _ _ r z e
      · rw [← Option.some.inj z] at e; exact absurd e y
    rcases ifc h with ⟨_, h⟩ | ⟨_, h⟩
    · exact k64 _ _ h
    · obtain ⟨q, hq, h⟩ := bd h
      rcases ifc h with ⟨_, h⟩ | ⟨_, h⟩
      · exact k64 _ _ h
      · rcases ifc h with ⟨_, h⟩ | ⟨_, h⟩
        · obtain ⟨u, hu, h⟩ := bd h
          exact k40 _ _ _ h
        · exact k40 _ _ _ h
