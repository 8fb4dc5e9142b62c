theorem tmP_b {mt : Nat → Option Nat} {x : Nat → Nat} {B a : Nat} : ∀ s : Nat, (∀ k t : Nat, k < s → mt (x k) = some t → t ≤ B) → tmP mt x s = some a → a ≤ B := by
  intro s
  induction s generalizing a with
  | zero =>
    intro _ h
    have := Option.some.inj (show some 0 = some a from h)
    omega
  | succ s ih =>
    intro hB h
    have h : (tmP mt x s).bind (fun a => (mt (x s)).map (fun t => max a t)) = some a := h
    obtain ⟨a0, h0, h⟩ := bd h
    obtain ⟨t, ht, e⟩ := Option.map_eq_some_iff.mp h
    have := ih (fun k t hk => hB k t (by omega)) h0
    have := hB s t (by omega) ht
    omega
theorem CwS_t {b n g c cl l x : Nat} {gr MP : cf_O} {fa : Nat → Int32} {C : List Int} (T : TmbQ MP g) (g1 : 1 ≤ g) (hg : g ≤ 208) (hF : FcQ c fa) (hcl : cl < c) (hl : 2 ≤ C.length ∧ C.length ≤ 3) (hz : ∀ z ∈ C, 1 ≤ z ∧ z < (g : Int)) (h : CwS b n gr fa (mtW (wvM MP)) C cl l x) : x / 2 ^ 44 ≤ 198 * g - 99 ∧ x < NOM ∧ ¬ x = 0 := by
  obtain ⟨W, _, _, p, h1, h2, a, h3, _, h5⟩ := h
  have pb := (wy_s hl.1 hl.2).2.2.2 p h1 h2
  have F := hF.2 cl hcl
  have c12 := hF.1
  have ab : a ≤ 198 * (g - 1) := tmP_b _ (fun k t hk ht => by
    obtain ⟨q1, q2, _⟩ := ptL_b hz rfl (pb k hk)
    have tt := T _ q1 q2
    unfold mtW at ht
    by_cases z : wvM MP (ptL C p k) = NOM
    · rw [if_pos z] at ht; cases ht
    · rw [if_neg z] at ht
      have := Option.some.inj ht
      have t3 := tt.2 z
      have e : wvM MP (ptL C p k) = nv (MP.2.2 4 (ptL C p k)) := rfl
      omega) h3
  have xb : ∀ j : Nat, j < C.length → ptL C p j < 1024 := fun j hj => by have := (ptL_b hz rfl (pb j hj)).2.1; omega
  have q0 : (if 0 < C.length then ptL C p 0 else 0) < 1024 := by split; exact xb 0 (by assumption); decide
  have q1 : (if 1 < C.length then ptL C p 1 else 0) < 1024 := by split; exact xb 1 (by assumption); decide
  have q2 : (if 2 < C.length then ptL C p 2 else 0) < 1024 := by split; exact xb 2 (by assumption); decide
  rw [h5]
  unfold cvV pnS NOM
  omega
theorem mkW_b {fa : Nat → Int32} {c v v' l g : Nat} (hF : FcQ c fa) (hl : l < 418) (g1 : 1 ≤ g) (hg : g ≤ 208) (n1 : v ≤ NOM) (t1 : ¬ v = NOM → v / 2 ^ 44 ≤ 198 * g - 99) (t2 : ¬ v' = NOM → v' / 2 ^ 44 ≤ 198 * g - 99) : mkW fa v (opO false v') c l ≤ NOM ∧ (¬ mkW fa v (opO false v') c l = NOM → mkW fa v (opO false v') c l / 2 ^ 44 ≤ 198 * g) := by
  have base : v ≤ NOM ∧ (¬ v = NOM → v / 2 ^ 44 ≤ 198 * g) := ⟨n1, fun q => by have := t1 q; omega⟩
  by_cases z : v' = NOM
  · have eo : opO false v' = none := by unfold opO; rw [if_neg (by decide), if_pos z]
    rw [eo, mkW_n]; exact base
  · have eo : opO false v' = some (v' / 2 ^ 44) := by unfold opO; rw [if_neg (by decide), if_neg z]
    rw [eo]
    cases e : ivN fa c with
    | none => rw [mkW_0 e]; exact base
    | some j =>
      rw [mkW_1 e]
      have jl := (ivN_l e).1
      have F := hF.2 j jl
      have c12 := hF.1
      have tt := t2 z
      have o := (opN_2 (l := l)).2.2.1
      have et := tnV_e (fa := fa) (j := j) (t := v' / 2 ^ 44) (l := l)
      generalize tnV fa j (v' / 2 ^ 44) l = u at et
      by_cases y : u / 2 ^ 34 < v / 2 ^ 34
      · rw [pick_l y]
        generalize v' / 2 ^ 44 = t at et tt
        unfold NOM
        omega
      · rw [pick_g y]; exact base
def CsC (R : Nat → List (List Nat)) : Nat → List Int → Prop := fun g C => ∃ a ∈ R g, C = upL a
def FmX (b n c : Nat) (gr cu li : cf_O) (R : Nat → List (List Nat)) : Prop := GW b n gr ∧ FcQ c (faL li) ∧ (∃ m : Nat, LwQ li m (DwS li c 0)) ∧ li.1 1 = ivI (ivN (faL li) c) ∧ ∀ g : Nat, b ≤ g → g < b + n → ∃ w0 : Nat, w0 ≤ 65000 ∧ (R g).length ≤ 300 ∧ (cu.2.1 2 g).toInt + 1 = (w0 : Int) ∧ RowE cu w0 (R g) ∧ (∀ l ∈ R g, Fall g l ∧ 2 ≤ l.length ∧ l.length ≤ 3) ∧ (∀ l ∈ R g, CvG b gr (upL l) g) ∧ (cu.2.1 2 (g + 1)).toInt = ((w0 + (R g).length : Nat) : Int)
theorem FmX_s {b n c : Nat} {gr cu li : cf_O} {R : Nat → List (List Nat)} (X : FmX b n c gr cu li R) : CsQ (CsC R) b (b + n) := fun g C g1 g2 hC => by
  obtain ⟨a, ha, e⟩ := hC
  subst e
  obtain ⟨w0, _, _, _, _, fa, _⟩ := X.2.2.2.2 g g1 g2
  have f := fa a ha
  have ul : (upL a).length = a.length := by unfold upL; rw [List.length_reverse, List.length_map]
  refine ⟨by omega, fun z hz => ?_⟩
  unfold upL at hz
  obtain ⟨y, hy, ey⟩ := List.mem_map.mp (List.mem_reverse.mp hz)
  have := Fall_lt f.1 hy
  omega
theorem fm_71 {rc : Nat → Int32 → cf_O → cf_O → cf_O → cf_O → cf_O → Option (cf_O × cf_O)} {b n c m : Nat} {gr cu li mp co : cf_O} {R : Nat → List (List Nat)} {v5 : Int32} {r : cf_O × cf_O} (X : FmX b n c gr cu li R) (e5 : v5.toInt = (m : Int)) (m1 : 1 ≤ m) (hm : m < b + n) (T : TmbQ mp m) (pn : ∀ l : Nat, l / 2 = m → nv (mp.2.2 5 l) ≤ NOM ∧ (¬ nv (mp.2.2 5 l) = NOM → nv (mp.2.2 5 l) / 2 ^ 44 ≤ 198 * m - 99)) (h : fMp_findMatches_71 rc v5 mp gr cu co li = some r) : ∃ mp2 : cf_O, Fr (fr_M [] [] [4]) mp mp2 ∧ TmbQ mp2 (m + 1) ∧ (∀ x : Nat, ¬ x / 2 = m → mp2.2.2 4 x = mp.2.2 4 x) ∧ (∀ l : Nat, l / 2 = m → (nv (mp.2.2 5 l) = 0 ∧ nv (mp2.2.2 4 l) = 0) ∨ (¬ nv (mp.2.2 5 l) = 0 ∧ nv (mp2.2.2 4 l) = mkW (faL li) (nv (mp.2.2 5 l)) (opO false (nv (mp.2.2 5 (opN l)))) c l)) ∧ rc 0 (v5 + 1) mp2 gr cu co li = some r := by
  obtain ⟨G, hF, LW, iv, rows⟩ := X
  have G0 := G.1
  have m2 := mul2 e5 (show m < 100000 by omega)
  have a2 : (2 * v5 + 1).toInt = ((2 * m + 1 : Nat) : Int) := addk (k := 1) m2 rfl (by omega) (by decide)
  have o0 : opN (2 * m) = 2 * m + 1 := by unfold opN; rw [if_pos (by omega)]
  have o1 : opN (2 * m + 1) = 2 * m := by unfold opN; rw [if_neg (by omega)]; omega
  have p0 := pn (2 * m) (by omega)
  have p1 := pn (2 * m + 1) (by omega)
  unfold fMp_findMatches_71 at h
  rw [opk, opk] at h
  obtain ⟨q3, h3, h⟩ := bd h
  have h := (ifn h).2
  rw [opk, opk, opk, opk, opk, tW m2] at h
  obtain ⟨q12, h12, h⟩ := bd h
  have h := (ifn h).2
  rw [opk, opk, tW a2] at h
  have s3 := madeBy_sp hF iv m2 (by omega) p0.1 (by rw [o0]; exact p1.1) (by rw [o0]; exact fun q => by have := p1.2 q; omega) h3
  have s12 := madeBy_sp (mp := yp mp 4 (2 * m) q3) hF iv a2 (by omega) p1.1 (by rw [o1]; exact p0.1) (by rw [o1]; exact fun q => Nat.le_trans (p0.2 q) (by omega)) h12
  have s12 : (nv (mp.2.2 5 (2 * m + 1)) = 0 ∧ nv q12 = 0) ∨ (¬ nv (mp.2.2 5 (2 * m + 1)) = 0 ∧ nv q12 = mkW (faL li) (nv (mp.2.2 5 (2 * m + 1))) (opO false (nv (mp.2.2 5 (opN (2 * m + 1))))) c (2 * m + 1)) := s12
  refine ⟨yp (yp mp 4 (2 * m) q3) 4 (2 * m + 1) q12, fr_yp (fr_yp fr_rfl rfl) rfl, fun x x2 xm => ?_, fun x hx => ?_, fun l hl => ?_, h⟩
  · show nv (vp_updL (vp_updL (mp.2.2 4) (2 * m) q3) (2 * m + 1) q12 x) ≤ NOM ∧ (¬ nv (vp_updL (vp_updL (mp.2.2 4) (2 * m) q3) (2 * m + 1) q12 x) = NOM → nv (vp_updL (vp_updL (mp.2.2 4) (2 * m) q3) (2 * m + 1) q12 x) / 2 ^ 44 ≤ _)
    by_cases xo : x < 2 * m
    · rw [uL_o (by omega), uL_o (by omega)]
      exact T x x2 xo
    · rcases (show x = 2 * m ∨ x = 2 * m + 1 by omega) with e | e
      · subst e
        rw [uL_o (by omega), uL_s, show 2 * m / 2 = m by omega]
        rcases s3 with ⟨_, z⟩ | ⟨_, z⟩
        · rw [z]; exact ⟨by decide, fun _ => by omega⟩
        · rw [z, o0]; exact mkW_b hF (by omega) m1 (by omega) p0.1 p0.2 p1.2
      · subst e
        rw [uL_s, show (2 * m + 1) / 2 = m by omega]
        rcases s12 with ⟨_, z⟩ | ⟨_, z⟩
        · rw [z]; exact ⟨by decide, fun _ => by omega⟩
        · rw [z, o1]; exact mkW_b hF (by omega) m1 (by omega) p1.1 p1.2 p0.2
  · show vp_updL (vp_updL (mp.2.2 4) (2 * m) q3) (2 * m + 1) q12 x = _
    rw [uL_o (by omega), uL_o (by omega)]
  · rcases (show l = 2 * m ∨ l = 2 * m + 1 by omega) with e | e
    · subst e
      show (_ ∧ nv (vp_updL (vp_updL (mp.2.2 4) (2 * m) q3) (2 * m + 1) q12 (2 * m)) = 0) ∨ (_ ∧ nv (vp_updL (vp_updL (mp.2.2 4) (2 * m) q3) (2 * m + 1) q12 (2 * m)) = _)
      rw [uL_o (by omega), uL_s]; exact s3
    · subst e
      show (_ ∧ nv (vp_updL (vp_updL (mp.2.2 4) (2 * m) q3) (2 * m + 1) q12 (2 * m + 1)) = 0) ∨ (_ ∧ nv (vp_updL (vp_updL (mp.2.2 4) (2 * m) q3) (2 * m + 1) q12 (2 * m + 1)) = _)
      rw [uL_s]; exact s12
theorem fm_go {b n c : Nat} {gr cu li MP : cf_O} {R : Nat → List (List Nat)} (X : FmX b n c gr cu li R) : ∀ (fu m : Nat) (v5 : Int32) (mp co : cf_O) (r : cf_O × cf_O), v5.toInt = (m : Int) → 1 ≤ m → m ≤ b + n → Fr (fr_M [] [] [4, 5]) MP mp → TmbQ mp m → SwQ b n c m gr (faL li) (CsC R) (wvM mp) → gMp_findMatches fu 0 v5 mp gr cu co li = some r → Fr (fr_M [] [] [4, 5]) MP r.1 ∧ TmbQ r.1 (b + n) ∧ SwQ b n c (b + n) gr (faL li) (CsC R) (wvM r.1)
  | 0, m, v5, mp, co, r, e5, m1, hm, fo, T, S, h => by cases h
  | fu + 1, m, v5, mp, co, r, e5, m1, hm, fo, T, S, h => by
    have h : fMp_findMatches_3 (gMp_findMatches fu) v5 mp gr cu co li = some r := h
    unfold fMp_findMatches_3 at h
    have X0 := X
    obtain ⟨G, hF, LW, iv, rows⟩ := X
    have G0 := G.1
    have hC := FmX_s X0
    obtain ⟨q, hq, h⟩ := bd h
    have eq := size_sp G hq
    rcases ifc h with ⟨a, h⟩ | ⟨a, h⟩
    · have a := c_le a
      have em : m = b + n := by omega
      subst em
      rw [← Option.some.inj h]; exact ⟨fo, T, S⟩
    · have a := c_nle a
      have m2 := mul2 e5 (show m < 100000 by omega)
      have a2 : (2 * v5 + 1).toInt = ((2 * m + 1 : Nat) : Int) := addk (k := 1) m2 rfl (by omega) (by decide)
      have o0 : opN (2 * m) = 2 * m + 1 := by unfold opN; rw [if_pos (by omega)]
      have o1 : opN (2 * m + 1) = 2 * m := by unfold opN; rw [if_neg (by omega)]; omega
      rw [opk] at h
      have h := (ifn h).2
      rw [opk, opk, opk, tW m2] at h
      have h := (ifn h).2
      rw [opk, tW a2] at h
      generalize e1 : yp (yp mp 5 (2 * m) 9223372036854775807) 5 (2 * m + 1) 9223372036854775807 = mq at h
      have fq : Fr (fr_M [] [] [4, 5]) MP mq := by rw [← e1]; exact fr_yp (fr_yp fo rfl) rfl
      have q4 : mq.2.2 4 = mp.2.2 4 := by rw [← e1]; rfl
      have q50 : mq.2.2 5 (2 * m) = 9223372036854775807 := by
        rw [← e1]
        show vp_updL (vp_updL (mp.2.2 5) (2 * m) _) (2 * m + 1) _ (2 * m) = _
        rw [uL_o (by omega), uL_s]
      have q51 : mq.2.2 5 (2 * m + 1) = 9223372036854775807 := by
        rw [← e1]
        show vp_updL (vp_updL (mp.2.2 5) (2 * m) _) (2 * m + 1) _ (2 * m + 1) = _
        rw [uL_s]
      have Tq : TmbQ mq m := by unfold TmbQ; rw [q4]; exact T
      have ew : ∀ mp2 : cf_O, (∀ x : Nat, ¬ x / 2 = m → mp2.2.2 4 x = mp.2.2 4 x) → ∀ x : Nat, 2 ≤ x → x < 2 * m → wvM mp2 x = wvM mp x := fun mp2 k x _ hx => by show nv (mp2.2.2 4 x) = nv (mp.2.2 4 x); rw [k x (by omega)]
      have p5 := pW (v := v5) (by omega) (by omega)
      obtain ⟨y, hy, h⟩ := bd h
      have ey := isGate_sp G hy
      rcases ifc h with ⟨z, h⟩ | ⟨z, h⟩
      · have nz := Yn_0 ey z
        have mb : m < b := by omega
        rw [opk] at h
        have h := (ifn h).2
        rw [opk, tW m2] at h
        have x0 : (yp mq 5 (2 * m) 0).2.2 5 (2 * m) = 0 := uL_s _ _ _
        have x1 : (yp mq 5 (2 * m) 0).2.2 5 (2 * m + 1) = 9223372036854775807 := by
          show vp_updL (mq.2.2 5) (2 * m) 0 (2 * m + 1) = _
          rw [uL_o (by omega)]; exact q51
        have pn : ∀ l : Nat, l / 2 = m → nv ((yp mq 5 (2 * m) 0).2.2 5 l) ≤ NOM ∧ (¬ nv ((yp mq 5 (2 * m) 0).2.2 5 l) = NOM → nv ((yp mq 5 (2 * m) 0).2.2 5 l) / 2 ^ 44 ≤ 198 * m - 99) := fun l hl => by
          rcases (show l = 2 * m ∨ l = 2 * m + 1 by omega) with e | e
          · subst e; rw [x0]; exact ⟨by decide, fun _ => Nat.zero_le _⟩
          · subst e; rw [x1]; exact ⟨by decide, fun w => absurd rfl w⟩
        obtain ⟨mp2, f2, T2, k2, s2, h⟩ := fm_71 (mp := yp mq 5 (2 * m) 0) X0 e5 m1 (by omega) (fun x x2 xm => Tq x x2 xm) pn h
        have k2' : ∀ x : Nat, ¬ x / 2 = m → mp2.2.2 4 x = mp.2.2 4 x := fun x hx => by rw [k2 x hx]; show mq.2.2 4 x = _; rw [q4]
        have old := SwQ_c S (fun g C g1 g2 hc => hC g C g1 (by omega) hc) (ew mp2 k2') (by omega)
        refine fm_go X0 fu (m + 1) (v5 + 1) mp2 co r (by omega) (by omega) (by omega) (fr_tr (fr_yp fq rfl) f2 rfl rfl rfl) T2 ⟨fun k k1 kb km => ?_, fun g g1 g2 => absurd g2 (by omega)⟩ h
        by_cases ek : k = m
        · subst ek
          have a0 := s2 (2 * k) (by omega)
          have a1 := s2 (2 * k + 1) (by omega)
          rw [x0] at a0
          rw [x1, o1, x0] at a1
          refine ⟨?_, ?_⟩
          · rcases a0 with ⟨_, w⟩ | ⟨w, _⟩
            · exact w
            · exact absurd rfl w
          · rcases a1 with ⟨w, _⟩ | ⟨_, w⟩
            · exact absurd w (by decide)
            · exact w
        · exact old.1 k k1 kb (by omega)
      · have nz := Yn_1 ey z
        obtain ⟨w, hw, h⟩ := bd h
        obtain ⟨w0, r1, r2, r3, r4, r5, r6, r7⟩ := rows m (by omega) (by omega)
        unfold fMp_findPlain fMp_findPlain_0 at hw
        obtain ⟨fo', hfo, hw⟩ := bd hw
        have efo : fo'.toInt = ((w0 + 0 : Nat) : Int) := by
          unfold fCu_firstOf fCu_firstOf_0 at hfo
          have hfo := (ifn hfo).2
          rw [opk, opk, tW e5] at hfo
          rw [← Option.some.inj hfo, i_add (by rw [show (1 : Int32).toInt = 1 from rfl]; omega) (by rw [show (1 : Int32).toInt = 1 from rfl]; omega), show (1 : Int32).toInt = 1 from rfl]
          omega
        obtain ⟨f1, N⟩ := fpl_go (MP := mq) G (by omega) (by omega) e5 hF LW r1 r2 r4 r5 r6 r7 Tq cfFU 0 fo' mq co w efo (Nat.zero_le _) fr_rfl (fun l hl => by
          have e : nv (mq.2.2 5 l) = NOM := by
            rcases (show l = 2 * m ∨ l = 2 * m + 1 by omega) with e | e
            · subst e; rw [q50]; rfl
            · subst e; rw [q51]; rfl
          rw [e]
          refine MnQ_e MnQ_0 (fun x => ⟨fun y => y.elim, ?_⟩)
          rintro ⟨a, ha, _⟩
          exact absurd ha (List.not_mem_nil)) hw
        have w4 : w.1.2.2 4 = mp.2.2 4 := by rw [f1.2.2 4 rfl, q4]
        have hc2 : ∀ C : List Int, CsC R m C → (2 ≤ C.length ∧ C.length ≤ 3) ∧ ∀ z ∈ C, 1 ≤ z ∧ z < (m : Int) := fun C hC' => hC m C (by omega) (by omega) hC'
        have el : ∀ l x : Nat, PnS b n c gr li mq (R m) l x → x / 2 ^ 44 ≤ 198 * m - 99 ∧ x < NOM ∧ ¬ x = 0 := fun l x ⟨a, ha, cl, y1, y2⟩ => by
          have cs := hc2 _ ⟨a, ha, rfl⟩
          exact CwS_t Tq m1 (by omega) hF y1 cs.1 cs.2 y2
        have pn : ∀ l : Nat, l / 2 = m → nv (w.1.2.2 5 l) ≤ NOM ∧ (¬ nv (w.1.2.2 5 l) = NOM → nv (w.1.2.2 5 l) / 2 ^ 44 ≤ 198 * m - 99) := fun l hl => by
          have Nl := N l hl
          exact ⟨MnQ_n Nl, fun y => (el l _ (Nl.1.resolve_left y)).1⟩
        obtain ⟨mp2, f2, T2, k2, s2, h⟩ := fm_71 X0 e5 m1 (by omega) (by unfold TmbQ; rw [w4]; exact T) pn h
        have k2' : ∀ x : Nat, ¬ x / 2 = m → mp2.2.2 4 x = mp.2.2 4 x := fun x hx => by rw [k2 x hx, w4]
        have old := SwQ_c S (fun g C g1 g2 hc => hC g C g1 (by omega) hc) (ew mp2 k2') (by omega)
        refine fm_go X0 fu (m + 1) (v5 + 1) mp2 w.2 r (by omega) (by omega) (by omega) (fr_tr (fr_tr fq f1 rfl rfl rfl) f2 rfl rfl rfl) T2 ⟨fun k k1 kb km => old.1 k k1 kb (by omega), fun g g1 g2 => ?_⟩ h
        by_cases gm : g < m
        · exact old.2 g g1 gm
        · have eg : g = m := by omega
          subst eg
          refine ⟨fun l => nv (w.1.2.2 5 l), fun l hl => ⟨?_, ?_⟩⟩
          · refine MnQ_e (N l hl) (fun x => ?_)
            have em : ∀ x : Nat, 2 ≤ x → x < 2 * g → mtW (wvM mq) x = mtW (wvM mp2) x := fun x x2 xg => by
              unfold mtW
              rw [ew mp2 k2' x x2 xg, show wvM mq x = wvM mp x by show nv (mq.2.2 4 x) = nv (mp.2.2 4 x); rw [q4]]
            constructor
            · rintro ⟨a, ha, cl, y1, y2⟩
              have cs := hc2 _ ⟨a, ha, rfl⟩
              exact ⟨upL a, ⟨a, ha, rfl⟩, cl, y1, CwS_c cs.1 cs.2 em y2⟩
            · rintro ⟨C, ⟨a, ha, eC⟩, cl, y1, y2⟩
              subst eC
              have cs := hc2 _ ⟨a, ha, rfl⟩
              exact ⟨a, ha, cl, y1, CwS_c cs.1 cs.2 (fun x x2 xg => (em x x2 xg).symm) y2⟩
          · rcases s2 l hl with ⟨y, _⟩ | ⟨_, y⟩
            · have Nl := N l hl
              rcases Nl.1 with u | u
              · rw [y] at u; exact absurd u (by decide)
              · exact absurd y (el l _ u).2.2
            · exact y
theorem findMatches_sp {b n c : Nat} {gr cu li mp co : cf_O} {R : Nat → List (List Nat)} {r : cf_O × cf_O} (X : FmX b n c gr cu li R) (h : fMp_findMatches mp gr cu co li = some r) : Fr (fr_M [] [] [4, 5]) mp r.1 ∧ TmbQ r.1 (b + n) ∧ SwQ b n c (b + n) gr (faL li) (CsC R) (wvM r.1) := by
  have G0 := X.1.1
  unfold fMp_findMatches fMp_findMatches_0 at h
  exact fm_go X cfFU 1 1 mp co r rfl (by decide) (by omega) fr_rfl (fun x x2 xm => absurd xm (by omega)) ⟨fun k k1 kb km => absurd km (by omega), fun g g1 g2 => absurd g2 (by omega)⟩ h
