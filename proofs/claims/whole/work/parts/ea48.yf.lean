def ordN (s w k : Nat) : Nat := w / s ^ k % s
def usP (s w : Nat) : Nat → Nat
  | 0 => 0
  | k + 1 => usP s w k ||| 1 <<< ordN s w k
def cdP (s w t : Nat) : Nat → Nat
  | 0 => 0
  | k + 1 => cdP s w t k + (2 * ordN s w k + t / 2 ^ k % 2) * 8 ^ k
theorem cd_2 : ∀ w : Nat, w < 4 → ∀ t : Nat, t < 4 → (usP 2 w 2 < 4 ∧ ∀ k : Nat, k < 2 → plN (cdP 2 w t 2) k = 2 * ordN 2 w k + t / 2 ^ k % 2) ∧ (usP 2 w 2 = 3 → cdP 2 w t 2 < 64 ∧ eoB 2 (cdP 2 w t 2) = true) := by decide +kernel
theorem cd_3 : ∀ w : Nat, w < 27 → ∀ t : Nat, t < 8 → (usP 3 w 3 < 8 ∧ ∀ k : Nat, k < 3 → plN (cdP 3 w t 3) k = 2 * ordN 3 w k + t / 2 ^ k % 2) ∧ (usP 3 w 3 = 7 → cdP 3 w t 3 < 512 ∧ eoB 3 (cdP 3 w t 3) = true) := by decide +kernel
theorem en_2 : ∀ p : Nat, p < 64 → eoB 2 p = true → ∃ w : Nat, w < 4 ∧ ∃ t : Nat, t < 4 ∧ usP 2 w 2 = 3 ∧ cdP 2 w t 2 = p := by decide +kernel
theorem en_3 : ∀ p : Nat, p < 512 → eoB 3 p = true → ∃ w : Nat, w < 27 ∧ ∃ t : Nat, t < 8 ∧ usP 3 w 3 = 7 ∧ cdP 3 w t 3 = p := by decide +kernel
theorem eo_p2 : ∀ p : Nat, p < 64 → eoB 2 p = true → ∀ k : Nat, k < 2 → plN p k / 2 < 2 := by decide +kernel
theorem eo_p3 : ∀ p : Nat, p < 512 → eoB 3 p = true → ∀ k : Nat, k < 3 → plN p k / 2 < 3 := by decide +kernel
def wyN (s : Nat) : Nat := if s = 2 then 4 else 27
theorem wy_s {s : Nat} (h2 : 2 ≤ s) (h3 : s ≤ 3) : wyN s ≤ 27 ∧ (∀ w : Nat, w < wyN s → ∀ t : Nat, t < 2 ^ s → (∀ k : Nat, k < s → plN (cdP s w t s) k = 2 * ordN s w k + t / 2 ^ k % 2) ∧ (usP s w s = 2 ^ s - 1 → cdP s w t s < 8 ^ s ∧ eoB s (cdP s w t s) = true)) ∧ (∀ p : Nat, p < 8 ^ s → eoB s p = true → ∃ w : Nat, w < wyN s ∧ ∃ t : Nat, t < 2 ^ s ∧ usP s w s = 2 ^ s - 1 ∧ cdP s w t s = p) ∧ ∀ p : Nat, p < 8 ^ s → eoB s p = true → ∀ k : Nat, k < s → plN p k / 2 < s := by
  rcases (show s = 2 ∨ s = 3 by omega) with e | e
  · subst e
    exact ⟨by decide, fun w hw t ht => ⟨(cd_2 w hw t ht).1.2, (cd_2 w hw t ht).2⟩, en_2, eo_p2⟩
  · subst e
    exact ⟨by decide, fun w hw t ht => ⟨(cd_3 w hw t ht).1.2, (cd_3 w hw t ht).2⟩, en_3, eo_p3⟩
theorem us_st : ∀ a : Nat, a < 8 → ∀ o : Nat, o < 3 → (Int32.ofNat a ||| ((1 : Int32) <<< (Int32.ofNat o &&& 31))).toInt = ((a ||| 1 <<< o : Nat) : Int) ∧ (a ||| 1 <<< o) < 8 := by decide +kernel
theorem mod_i {x y : Int32} {a d : Nat} (ex : x.toInt = (a : Int)) (ey : y.toInt = (d : Int)) (ha : a < 1000) (hd : 0 < d) : (x - x / y * y).toInt = ((a % d : Nat) : Int) ∧ (x / y).toInt = ((a / d : Nat) : Int) := by
  have e1 : (x / y).toInt = ((a / d : Nat) : Int) := by rw [i_dv (by omega) (by omega), ex, ey]; rfl
  have l : a / d * d ≤ a := Nat.div_mul_le_self a d
  have e2 : (x / y * y).toInt = ((a / d * d : Nat) : Int) := by
    rw [i_mul (by rw [e1, ey, ← Int.natCast_mul]; omega) (by rw [e1, ey, ← Int.natCast_mul]; omega), e1, ey, ← Int.natCast_mul]
  refine ⟨?_, e1⟩
  have dm := Nat.div_add_mod a d
  rw [Nat.mul_comm] at dm
  rw [i_sub (by omega) (by omega), ex, e2]
  omega
theorem GvQ_8 {tb : Int32} {s p : Nat} {L : Nat → Bool} (h2 : 2 ≤ s) (h3 : s ≤ 3) (hp : ∀ k : Nat, k < s → plN p k / 2 < s) (hL : ∀ i j : Nat, (∀ k : Nat, k < s → i.testBit k = j.testBit k) → L i = L j) : (∀ j : Nat, j < 8 → bt tb (ixA (plF p) j s) = L j) ↔ GvQ tb s p L := by
  have p8 : 2 ^ s ≤ 2 ^ 3 := Nat.pow_le_pow_right (by decide) h3
  constructor
  · exact fun h i hi => h i (by omega)
  · intro h j hj
    have tb' : ∀ k : Nat, k < s → j.testBit k = (j % 2 ^ s).testBit k := fun k hk => by
      rw [Nat.testBit_mod_two_pow, decide_eq_true hk, Bool.true_and]
    have e1 : ixA (plF p) j s = ixA (plF p) (j % 2 ^ s) s := by
      have go : ∀ k : Nat, k ≤ s → ixA (plF p) j k = ixA (plF p) (j % 2 ^ s) k := fun k => by
        induction k with
        | zero => exact fun _ => rfl
        | succ k ih =>
          intro hk
          show ixA (plF p) j k + (if plF p k j then 2 ^ k else 0) = ixA (plF p) (j % 2 ^ s) k + (if plF p k (j % 2 ^ s) then 2 ^ k else 0)
          have e : plF p k j = plF p k (j % 2 ^ s) := by unfold plF; rw [tb' _ (hp k (by omega))]
          rw [ih (by omega), e]
      exact go s (Nat.le_refl _)
    rw [e1, hL j (j % 2 ^ s) tb']
    exact h _ (Nat.mod_lt _ (Nat.two_pow_pos s))
def CdQ (fa : Nat → Int32) (mt : Nat → Option Nat) (C : List Int) (cl s : Nat) (L : Nat → Bool) (p x : Nat) : Prop := ∃ a : Nat, tmP mt (ptL C p) s = some a ∧ GvQ (fa (4 * cl + 3)) s p L ∧ x = cvV fa cl a s (ptL C p)
def PrS (s w t : Nat) (P : Nat → Nat → Prop) (x : Nat) : Prop := ∃ w' t' : Nat, (w' < w ∨ (w' = w ∧ t' < t)) ∧ w' < wyN s ∧ t' < 2 ^ s ∧ usP s w' s = 2 ^ s - 1 ∧ P (cdP s w' t' s) x
def LtF (W : Nat → Nat → Bool) (l : Nat) : Nat → Bool := fun i => W (l / 2) i ^^ decide (l % 2 = 1)
def TcX (b n g c cl ci s : Nat) (C : List Int) (W : Nat → Nat → Bool) (mt : Nat → Option Nat) (gr OM : cf_O) : Prop := GW b n gr ∧ RGq b n gr OM ∧ CVq b n gr C W ∧ (b ≤ g ∧ g < b + n) ∧ CtM ci C OM ∧ (C.length = s ∧ 2 ≤ s ∧ s ≤ 3) ∧ (∀ z ∈ C, 1 ≤ z ∧ z < (g : Int)) ∧ RmT b OM mt g ∧ (∀ k : Nat, k ≤ g → MkE (OM.2.1 91 k) (W k)) ∧ cl < c ∧ (OM.2.1 84 (4 * cl + 2)).toInt = (s : Int) ∧ ArQ c (OM.2.1 84) ∧ (1 ≤ (OM.2.1 84 (4 * cl + 1)).toInt ∧ (OM.2.1 84 (4 * cl + 1)).toInt ≤ 99) ∧ 0 ≤ (OM.2.1 84 (4 * cl + 3)).toInt
def StQ (om : cf_O) (g c : Nat) (S : Nat → Nat → Prop) : Prop := ∀ l : Nat, l / 2 = g → ∃ v : Nat, RvQ om l c (2 * g) (198 * g - 99) v ∧ MnQ v (S l)
def OtQ (OM om : cf_O) (g : Nat) : Prop := ∀ l : Nat, ¬ l / 2 = g → om.2.1 88 l = OM.2.1 88 l
theorem StQ_e {om : cf_O} {g c : Nat} {S S2 : Nat → Nat → Prop} (h : StQ om g c S) (e : ∀ l x : Nat, l / 2 = g → (S l x ↔ S2 l x)) : StQ om g c S2 := fun l hl => by
  obtain ⟨v, h1, h2⟩ := h l hl
  exact ⟨v, h1, MnQ_e h2 (fun x => e l x hl)⟩
theorem StQ_f {om om2 : cf_O} {g c : Nat} {S : Nat → Nat → Prop} (h : StQ om g c S) (e8 : om2.2.1 88 = om.2.1 88) (e4 : om2.2.1 84 = om.2.1 84) (e9 : om2.2.1 89 = om.2.1 89) : StQ om2 g c S := fun l hl => by
  obtain ⟨v, h1, h2⟩ := h l hl
  exact ⟨v, RvQ_c h1 (by rw [e8]) e4 (fun k _ => by rw [e9]), h2⟩
theorem cv_lt {fa : Nat → Int32} {cl a s c B : Nat} {x : Nat → Nat} (hA : ArQ c fa) (hcl : cl < c) (ha : a ≤ 400000) (hd : (fa (4 * cl + 1)).toInt ≤ 99) (hx : ∀ k : Nat, k < s → x k < B) (hB : B ≤ 1024) : cvV fa cl a s x < NOM := by
  have A := hA.2 cl hcl
  have c12 := hA.1
  have p0 : (if 0 < s then x 0 else 0) < 1024 := by
    split
    · have := hx 0 (by assumption); omega
    · decide
  have p1 : (if 1 < s then x 1 else 0) < 1024 := by
    split
    · have := hx 1 (by assumption); omega
    · decide
  have p2 : (if 2 < s then x 2 else 0) < 1024 := by
    split
    · have := hx 2 (by assumption); omega
    · decide
  unfold cvV pnS NOM
  omega
theorem ptL_b {C : List Int} {p k s g : Nat} (hC : ∀ z ∈ C, 1 ≤ z ∧ z < (g : Int)) (hl : C.length = s) (hk : plN p k / 2 < s) : 2 ≤ ptL C p k ∧ ptL C p k < 2 * g ∧ C[plN p k / 2]? = some ((ptL C p k / 2 : Nat) : Int) ∧ ptL C p k % 2 = plN p k % 2 := by
  have hm : C.getD (plN p k / 2) 0 ∈ C := by
    rw [List.getD_eq_getElem?_getD, List.getElem?_eq_getElem (by omega)]
    exact List.getElem_mem (by omega)
  have h := hC _ hm
  have e : C[plN p k / 2]? = some (C.getD (plN p k / 2) 0) := by
    rw [List.getD_eq_getElem?_getD, List.getElem?_eq_getElem (by omega)]; rfl
  unfold ptL
  refine ⟨by omega, by omega, ?_, by omega⟩
  rw [e]
  congr 1
  omega
theorem tcm_sp {b n g c cl ci s p l v : Nat} {C : List Int} {W : Nat → Nat → Bool} {mt : Nat → Option Nat} {gr OM om r : cf_O} {S : Nat → Prop} {v1 v2 : Int32} (X : TcX b n g c cl ci s C W mt gr OM) (fo : Fr (fr_M [] [88, 89, 90, 98] []) OM om) (M : MaQ om cl s (2 * g) (ptL C p)) (hp : p < 8 ^ s) (he : eoB s p = true) (hl : l / 2 = g) (e1 : v1.toInt = (l : Int)) (e2 : v2.toInt = (s : Int)) (V : RvQ om l c (2 * g) (198 * g - 99) v) (N : MnQ v S) (h : fM_tryMatch v1 v2 om = some r) : ∃ w : Nat, TmE om r l c (2 * g) (198 * g - 99) v w ∧ MnQ w (fun x => S x ∨ CdQ (OM.2.1 84) mt C cl s (LtF W l) p x) := by
  obtain ⟨G, R, hV, ⟨g1, g2⟩, hC, ⟨c1, c2, c3⟩, hz, T, Mk, hcl, es, hA, dl, tb0⟩ := X
  have G0 := G.1
  have e84 : om.2.1 84 = OM.2.1 84 := fo.2.1 84 rfl
  have pb : ∀ k : Nat, k < s → plN p k / 2 < s := (wy_s c2 c3).2.2.2 p hp he
  have R1 : RGq b n gr om := RGq_f R (fo.1 39 rfl) (fo.1 40 rfl) (fo.1 43 rfl) (fo.2.1 44 rfl) (fo.2.1 45 rfl) (fo.2.1 46 rfl) (fo.2.1 47 rfl)
  have T1 : RmT b om mt g := RmT_f T (fo.2.1 86 rfl) (fo.2.1 87 rfl)
  have mk1 : om.2.1 91 = OM.2.1 91 := fo.2.1 91 rfl
  have Q : GmQ om l s cl (plF p) (LtF W l) (ptL C p) := by
    refine ⟨fun k hk => ?_, ⟨W (l / 2), by rw [mk1]; exact Mk _ (by omega), fun i hi => rfl⟩, by rw [e84]; exact tb0, by have := hA.1; omega⟩
    obtain ⟨b1, b2, b3, b4⟩ := ptL_b hz c1 (pb k hk)
    refine ⟨((M.2 k (by omega)).1 hk).1, W (ptL C p k / 2), by rw [mk1]; exact Mk _ (by omega), fun i hi => ?_⟩
    rw [hV.1 _ _ i b3, b4]; rfl
  have pL : ∀ i j : Nat, (∀ k : Nat, k < s → i.testBit k = j.testBit k) → LtF W l i = LtF W l j := fun i j hij => by
    unfold LtF
    rw [CV_mod G hV (by rw [c1]; exact hij) (l / 2 + 1) (l / 2) (by omega) (by omega)]
  have gv := GvQ_8 (tb := OM.2.1 84 (4 * cl + 3)) c2 c3 pb pL
  have lt : ∀ a : Nat, tmP mt (ptL C p) s = some a → a ≤ 198 * g → cvV (OM.2.1 84) cl a s (ptL C p) < NOM := fun a _ ha => cv_lt (B := 2 * g) hA hcl (by omega) dl.2 (fun k hk => (ptL_b hz c1 (pb k hk)).2.1) (by omega)
  unfold fM_tryMatch fM_tryMatch_0 at h
  have none' : (∀ x : Nat, ¬ CdQ (OM.2.1 84) mt C cl s (LtF W l) p x) → MnQ v (fun x => S x ∨ CdQ (OM.2.1 84) mt C cl s (LtF W l) p x) := fun q => MnQ_e N (fun x => ⟨Or.inl, fun z => z.resolve_right (q x)⟩)
  rcases tmt_go R1 T1 (by omega) rfl Q M e1 (by omega) e2 c3 (by omega) hcl (by rw [e84]; exact es) (by rw [e84]; exact hA) (by rw [e84]; exact dl) (T := 198 * g - 99) (by omega) (by omega) V cfFU 0 0 0 0 r rfl (Nat.zero_le _) rfl rfl (by rw [if_pos rfl]; omega) h with ⟨z1, z2⟩ | ⟨a, z1, z2, ⟨z3, z4⟩ | ⟨⟨j, j1, j2⟩, z4⟩⟩
  · refine ⟨v, z2, none' (fun x ⟨a, ea, _⟩ => ?_)⟩
    rw [z1] at ea; cases ea
  · rw [e84] at z3 z4
    refine ⟨_, z4, MnQ_e (MnQ_s N (lt a z1 z2)) (fun x => ⟨fun q => ?_, fun q => ?_⟩)⟩
    · exact q.imp id (fun q => ⟨a, z1, gv.mp z3, q⟩)
    · rcases q with q | ⟨a', ea, _, q⟩
      · exact Or.inl q
      · rw [z1] at ea
        have := Option.some.inj ea
        subst this
        exact Or.inr q
  · rw [e84] at j2
    refine ⟨v, z4, none' (fun x ⟨_, _, q, _⟩ => ?_)⟩
    exact j2 (gv.mpr q j j1)
