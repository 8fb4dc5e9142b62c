theorem fr_dj {l m : List Nat} (h : l.all (fun x => !fr_L m x) = true) {k : Nat} (hk : fr_L l k = true) : fr_L m k = false := by
  induction l with
  | nil => cases hk
  | cons a l ih =>
    have h : (!fr_L m a && l.all (fun x => !fr_L m x)) = true := h
    have hk : (Nat.beq k a || l.any (Nat.beq k)) = true := hk
    have h := (Bool.and_eq_true _ _).mp h
    cases e : Nat.beq k a with
    | true =>
      have e := Nat.eq_of_beq_eq_true e
      rw [e]
      exact Bool.not_eq_true' _ ▸ h.1
    | false =>
      rw [e] at hk
      exact ih h.2 hk
theorem fp_fp (o : cf_O) (k : Nat) (a b : Int32) : fp (fp o k a) k b = fp o k b := by
  refine Prod.ext (funext fun j => ?_) rfl
  show (bif Nat.beq j k then b else (bif Nat.beq j k then a else o.1 j)) = (bif Nat.beq j k then b else o.1 j)
  cases Nat.beq j k <;> rfl
theorem again_36 {o : cf_O} (c : ¬ o.1 64 = 0) : fM_again (fp o 36 0) = fM_again o := by
  have e : ∀ v : Int32, fM_cutAll v (fp o 36 0) = fM_cutAll v o := fun v => by
    unfold fM_cutAll fM_cutAll_0
    rw [opk, opk, fp_fp]
  unfold fM_again fM_again_0
  show (if o.1 64 = 0 then fM_again_27 (fp o 36 0) else Option.bind (fM_cutAll (o.1 65) (fp o 36 0)) _) = _
  rw [if_neg c, if_neg c, e]
theorem ok_w {q w u : cf_O} (kq : okO I_M q) (ku : okO I_M u) (F1 : Fr (fr_M [0, 31, 36, 37, 43, 64, 70, 85] [32, 33, 34, 35, 44, 45, 46, 47, 48, 49, 50, 51, 68, 69, 75] []) q w) (F2 : Fr (fr_M [36, 73] [57, 58, 59, 60, 61, 62, 63, 67, 72, 74] []) w u) : okO I_M (fp w 36 0) := by
  have key : (∀ k : Nat, ¬ k = 36 → (I_M.1 k).1 ≤ (w.1 k).toInt ∧ (w.1 k).toInt ≤ (I_M.1 k).2) ∧ ∀ k i : Nat, (I_M.2 k).1 ≤ (w.2.1 k i).toInt ∧ (w.2.1 k i).toInt ≤ (I_M.2 k).2 := by
    refine ⟨fun k nk => ?_, fun k i => ?_⟩
    · cases e : fr_L [0, 31, 36, 37, 43, 64, 70, 85] k with
      | false => rw [F1.1 k e]; exact kq.1 k
      | true =>
        have z : fr_L [36, 73] k = false := by
          cases e2 : fr_L [36, 73] k with
          | false => rfl
          | true =>
            have e2 : (Nat.beq k 36 || (Nat.beq k 73 || false)) = true := e2
            cases e3 : Nat.beq k 36 with
            | true => exact absurd (Nat.eq_of_beq_eq_true e3) nk
            | false =>
              cases e4 : Nat.beq k 73 with
              | true =>
                have z := Nat.eq_of_beq_eq_true e4
                rw [z] at e; exact absurd e (by decide)
              | false => rw [e3, e4] at e2; cases e2
        rw [← F2.1 k z]; exact ku.1 k
    · cases e : fr_L [32, 33, 34, 35, 44, 45, 46, 47, 48, 49, 50, 51, 68, 69, 75] k with
      | false => rw [F1.2.1 k e]; exact kq.2 k i
      | true =>
        have z := fr_dj (l := [32, 33, 34, 35, 44, 45, 46, 47, 48, 49, 50, 51, 68, 69, 75]) (m := [57, 58, 59, 60, 61, 62, 63, 67, 72, 74]) (by decide) e
        rw [← F2.2.1 k z]; exact ku.2 k i
  refine ⟨fun k => ?_, key.2⟩
  show (I_M.1 k).1 ≤ (bif Nat.beq k 36 then (0 : Int32) else w.1 k).toInt ∧ (bif Nat.beq k 36 then (0 : Int32) else w.1 k).toInt ≤ (I_M.1 k).2
  cases e : Nat.beq k 36 with
  | true =>
    have e := Nat.eq_of_beq_eq_true e
    rw [e]
    show (I_M.1 36).1 ≤ (0 : Int32).toInt ∧ (0 : Int32).toInt ≤ (I_M.1 36).2
    decide
  | false =>
    exact key.1 k (fun z => by rw [z] at e; exact absurd e (by decide))
theorem rew_cv {o0 o1 o2 o3 o4 o5 o6 om cv : cf_O} {r : Int32 × cf_O × cf_O × cf_O × cf_O × cf_O × cf_O × cf_O} {rm : Int32 × cf_O} (h38 : om.1 38 = o0.1 16) (h16 : o0.1 16 = 0 ∨ (o0.1 16 = 1 ∧ ∃ b n : Nat, GW b n o5 ∧ RGq b n o5 om)) (hF : FuI o1 o5) (hl : 0 ≤ (o2.1 4).toInt ∧ o2.1 4 = o2.1 5) (hC : CuI o2 o5) (P : PbI o4) (ho : okO I_M om) (f95 : (0 : Int) ≤ (om.1 95).toInt ∧ (om.1 95).toInt ≤ 0) (hcn : Cn (om.2.1 59) (om.2.1 58)) (hI : CvI o0 o5 cv om) (ho2 : okO I_M rm.2) (h1 : fF_rewrite o0 o1 o2 o3 o4 o5 o6 = some r) (h2 : fM_rewrite om = some rm) : CvI r.2.1 r.2.2.2.2.2.2.1 cv rm.2 := by
  have E := (eq_rewrite h38 h16 hF hl hC P ho f95 hcn h1 h2).1
  rcases E with ⟨_, _, _, _, E17, _, E64, _⟩ | ⟨E0, _, E17, _, Eg, E64, _, Er⟩
  · exact ⟨by rw [E17, E64], Or.inl E17⟩
  refine ⟨by rw [E17, E64]; exact hI.1, ?_⟩
  rw [E17, Eg]
  rcases hI.2 with z | ⟨i1, S⟩
  · exact Or.inl z
  refine Or.inr ⟨i1, ?_⟩
  have h64 : om.1 64 = 1 := hI.1.symm.trans i1
  rcases rew_c h1 with ⟨a, er⟩ | ⟨a, p, hp, h1⟩
  · unfold fM_rewrite fM_rewrite_0 at h2
    rw [if_pos (h38.trans a)] at h2
    unfold fM_rewrite_13 at h2
    rw [refuse_1, Option.bind_some, if_neg (show ¬ ((1 : Int32), fp om 0 1).1 = 0 by show ¬ (1 : Int32) = 0; decide)] at h2
    rw [← Option.some.inj h2]
    exact CvS_0 S
  · obtain ⟨a1, b, n, G, R⟩ := h16.resolve_left a
    have m38 : om.1 38 = 1 := h38.trans a1
    unfold fM_rewrite fM_rewrite_0 at h2
    rw [if_neg (by rw [m38]; decide)] at h2
    unfold fM_rewrite_13 at h2
    rw [refuse_00, Option.bind_some, if_pos (show ((0 : Int32), fp om 0 0).1 = 0 from rfl)] at h2
    obtain ⟨q, hq, h2⟩ := bd h2
    have hq : fM_cutAll 4 (fp om 0 0) = some q := hq
    have R1 : RGq b n o5 (fp om 0 0) := RGq_f R rfl rfl rfl rfl rfl rfl rfl
    obtain ⟨c1, c2, c3, c4, c5⟩ := cuts_both (K := 4) G R1 (by decide) (by decide) rfl rfl hl hC (ok_fp ho ⟨by decide, by decide⟩) ⟨by show (0 : Int) ≤ (0 : Int32).toInt; decide, by show (0 : Int32).toInt ≤ 2; decide⟩ m38 f95 hcn hp hq
    have R2 : RGq b n o5 q.2 := RGq_f R1 (c3.1 39 rfl) (c3.1 40 rfl) (c3.1 43 rfl) (c3.2.1 44 rfl) (c3.2.1 45 rfl) (c3.2.1 46 rfl) (c3.2.1 47 rfl)
    rcases c5 with ⟨y1, y2⟩ | ⟨y1, y2, y3, y4, y5, y6, y7⟩
    · rw [if_pos y2] at h2
      obtain ⟨u, hu, h2⟩ := bd h2
      obtain ⟨w, hw, h2⟩ := bd h2
      rw [show fM_refuse 0 1 0 u = some (1, fp u 0 2) from refuse_2 (by decide)] at hw
      have ew := (Option.some.inj hw).symm
      subst ew
      rw [← Option.some.inj h2]
      have Z := again_S (om := om) (om1 := q.2) (cv := cv) G R2 (Or.inr ⟨h64, S⟩) c2 ⟨by rw [c3.1 0 rfl]; show (0 : Int) ≤ (0 : Int32).toInt; decide, by rw [c3.1 0 rfl]; show (0 : Int32).toInt ≤ 2; decide⟩ (by rw [c3.1 38 rfl]; exact m38) (by rw [c3.1 95 rfl]; exact f95) c4 (c3.1 64 rfl) (c3.1 65 rfl) (c3.1 66 rfl) (c3.1 73 rfl) (c3.1 76 rfl) (c3.1 95 rfl) (c3.2.1 41 rfl) (c3.2.1 42 rfl) (c3.2.1 74 rfl) (c3.2.1 77 rfl) (c3.2.2 4 rfl) hu
      rcases Z.2 with z | ⟨_, z⟩
      · rw [h64] at z; exact absurd z (by decide)
      · exact CvS_0 z
    · rcases h1 with ⟨d, _⟩ | ⟨_, mk, hmk, _⟩
      · exact absurd d y1
      rw [if_neg y2] at h2
      obtain ⟨lo, hlo, h2⟩ := bd h2
      obtain ⟨bs, hbs, h2⟩ := bd h2
      obtain ⟨be, hbe, h2⟩ := bd h2
      obtain ⟨ol, hol, h2⟩ := bd h2
      obtain ⟨_, w, W, D, F⟩ := mkrew_sim (om0 := om) G R2 c2 (c3.1 0 rfl) (by rw [c3.1 95 rfl]; exact f95) (by rw [c3.1 38 rfl]; exact m38) ⟨y3, y6, y7⟩ P (c3.1 64 rfl) (c3.1 85 rfl) (fun b n r => RGq_f (RGq_f r rfl rfl rfl rfl rfl rfl rfl : RGq b n o5 (fp om 0 0)) (c3.1 39 rfl) (c3.1 40 rfl) (c3.1 43 rfl) (c3.2.1 44 rfl) (c3.2.1 45 rfl) (c3.2.1 46 rfl) (c3.2.1 47 rfl)) hmk hlo hbs hbe hol h2
      obtain ⟨_, _, w3⟩ := W
      rcases D with ⟨z, er⟩ | ⟨z, u, hu, er⟩
      · exfalso
        rw [er] at E0
        rcases E0 with ⟨_, e⟩ | ⟨_, e⟩
        · rw [e] at z; exact absurd z (by decide)
        · rw [e] at z; exact absurd z (by decide)
      · rcases w3 with ⟨_, e, _⟩ | ⟨_, e0, e64, _, eG⟩
        · rw [e] at z; exact absurd z (by decide)
        have fa := wF_M_again hu
        rw [er] at ho2 ⊢
        have w64 : ¬ w.2.1 64 = 0 := by rw [e64, h64]; decide
        have ok := ok_w c2 ho2 F fa
        rw [← again_36 w64] at hu
        have Rw : RGq b n o5 (fp w.2 36 0) := RGq_f (eG b n R) rfl rfl rfl rfl rfl rfl rfl
        have Z := again_S (om := om) (om1 := fp w.2 36 0) (cv := cv) G Rw (Or.inr ⟨h64, S⟩) ok ⟨by show (0 : Int) ≤ (w.2.1 0).toInt; rw [e0]; decide, by show (w.2.1 0).toInt ≤ 2; rw [e0]; decide⟩ (by show w.2.1 38 = 1; rw [F.1 38 rfl, c3.1 38 rfl]; exact m38) (by show (0 : Int) ≤ (w.2.1 95).toInt ∧ (w.2.1 95).toInt ≤ 0; rw [F.1 95 rfl, c3.1 95 rfl]; exact f95) (by show Cn (w.2.2.1 59) (w.2.2.1 58); rw [F.2.1 59 rfl, F.2.1 58 rfl]; exact c4) e64 ((F.1 65 rfl).trans (c3.1 65 rfl)) ((F.1 66 rfl).trans (c3.1 66 rfl)) ((F.1 73 rfl).trans (c3.1 73 rfl)) ((F.1 76 rfl).trans (c3.1 76 rfl)) ((F.1 95 rfl).trans (c3.1 95 rfl)) ((F.2.1 41 rfl).trans (c3.2.1 41 rfl)) ((F.2.1 42 rfl).trans (c3.2.1 42 rfl)) ((F.2.1 74 rfl).trans (c3.2.1 74 rfl)) ((F.2.1 77 rfl).trans (c3.2.1 77 rfl)) ((F.2.2 4 rfl).trans (c3.2.2 4 rfl)) hu
        rcases Z.2 with z | ⟨_, z⟩
        · rw [h64] at z; exact absurd z (by decide)
        · exact z
