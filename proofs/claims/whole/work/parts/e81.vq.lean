def upL (l : List Nat) : List Int := (l.map (fun a : Nat => (a : Int))).reverse
theorem up_m {l : List Nat} {x : Int} : x ∈ upL l ↔ ∃ a ∈ l, (a : Int) = x := by
  unfold upL; rw [List.mem_reverse, List.mem_map]
theorem up_n {l : List Nat} {a : Nat} : (a : Int) ∈ upL l ↔ a ∈ l := by
  rw [up_m]
  exact ⟨fun ⟨b, h1, h2⟩ => by rw [show a = b by omega]; exact h1, fun h => ⟨a, h, rfl⟩⟩
theorem up_l {l : List Nat} : (upL l).length = l.length := by unfold upL; rw [List.length_reverse, List.length_map]
theorem up_c {a : Nat} {l : List Nat} : upL (a :: l) = upL l ++ [(a : Int)] := by unfold upL; rw [List.map_cons, List.reverse_cons]
theorem Fall_lt : ∀ {l : List Nat} {g a : Nat}, Fall g l → a ∈ l → 0 < a ∧ a < g
  | [], _, _, _, h => absurd h (List.not_mem_nil)
  | b :: l, g, a, h, ha => by
    rcases List.mem_cons.mp ha with e | e
    · rw [e]; exact h.1
    · have := Fall_lt h.2 e; have := h.1.2; omega
theorem up_sd : ∀ {l : List Nat} {g : Nat}, Fall g l → Sd (upL l)
  | [], _, _ => List.Pairwise.nil
  | a :: l, g, h => by
    rw [up_c]
    refine List.pairwise_append.mpr ⟨up_sd h.2, List.pairwise_singleton _ _, fun x hx y hy => ?_⟩
    rw [List.mem_singleton.mp hy]
    obtain ⟨b, h1, h2⟩ := up_m.mp hx
    have := Fall_lt h.2 h1
    omega
theorem sd_ext {X Y : List Int} (hX : Sd X) (hY : Sd Y) (e : ∀ x : Int, x ∈ X ↔ x ∈ Y) : X = Y := by
  have h1 := sd_len hX hY (fun x hx => (e x).mp hx)
  have h2 := sd_len hY hX (fun x hx => (e x).mpr hx)
  exact h1.2 (by omega)
theorem dro_me {g m : Nat} {l : List Nat} (h : Fall g l) (hm : l.headD 0 ≤ m) (m0 : ¬ m = 0) (x : Nat) : x ∈ l ↔ (x ∈ dro m l ∨ (x = m ∧ l.headD 0 = m)) := by
  unfold dro
  cases l with
  | nil =>
    have z : ¬ ([] : List Nat).headD 0 = m := fun q => m0 (by rw [← q]; rfl)
    rw [if_neg z]
    exact ⟨fun q => Or.inl q, fun q => q.elim id (fun q => absurd q.2 z)⟩
  | cons a l =>
    by_cases e : a = m
    · rw [if_pos (show (a :: l).headD 0 = m from e), List.mem_cons]
      show x = a ∨ x ∈ l ↔ x ∈ l ∨ (x = m ∧ a = m)
      rw [e]
      exact ⟨fun q => q.elim (fun q => Or.inr ⟨q, rfl⟩) Or.inl, fun q => q.elim Or.inr (fun q => Or.inl q.1)⟩
    · rw [if_neg (show ¬ (a :: l).headD 0 = m from e)]
      exact ⟨Or.inl, fun q => q.elim id (fun q => absurd q.2 e)⟩
theorem mu_s {g : Nat} {a b : List Nat} (ha : Fall g a) (hb : Fall g b) (m0 : ¬ mxh a b = 0) : mergeL (upL a) (upL b) = mergeL (upL (dro (mxh a b) a)) (upL (dro (mxh a b) b)) ++ [((mxh a b : Nat) : Int)] := by
  have la : a.headD 0 ≤ mxh a b := by unfold mxh; omega
  have lb : b.headD 0 ≤ mxh a b := by unfold mxh; omega
  have one : a.headD 0 = mxh a b ∨ b.headD 0 = mxh a b := by unfold mxh; omega
  have fa := Fall_m ha la
  have fb := Fall_m hb lb
  rw [if_neg m0] at fa fb
  have ma := dro_me ha la m0
  have mb := dro_me hb lb m0
  generalize mxh a b = m at *
  refine sd_ext (mg_sd (up_sd ha) (up_sd hb)) ?_ (fun x => ?_)
  · refine List.pairwise_append.mpr ⟨mg_sd (up_sd fa) (up_sd fb), List.pairwise_singleton _ _, fun x hx y hy => ?_⟩
    rw [List.mem_singleton.mp hy]
    rcases mg_mem.mp hx with q | q <;> (obtain ⟨c, h1, h2⟩ := up_m.mp q)
    · have := Fall_lt fa h1; omega
    · have := Fall_lt fb h1; omega
  · rw [mg_mem, List.mem_append, mg_mem, List.mem_singleton, up_m, up_m, up_m, up_m]
    constructor
    · rintro (⟨c, h1, h2⟩ | ⟨c, h1, h2⟩)
      · rcases (ma c).mp h1 with q | q
        · exact Or.inl (Or.inl ⟨c, q, h2⟩)
        · exact Or.inr (by rw [← h2, q.1])
      · rcases (mb c).mp h1 with q | q
        · exact Or.inl (Or.inr ⟨c, q, h2⟩)
        · exact Or.inr (by rw [← h2, q.1])
    · rintro ((⟨c, h1, h2⟩ | ⟨c, h1, h2⟩) | h)
      · exact Or.inl ⟨c, (ma c).mpr (Or.inl h1), h2⟩
      · exact Or.inr ⟨c, (mb c).mpr (Or.inl h1), h2⟩
      · rcases one with q | q
        · exact Or.inl ⟨m, (ma m).mpr (Or.inr ⟨rfl, q⟩), h.symm⟩
        · exact Or.inr ⟨m, (mb m).mpr (Or.inr ⟨rfl, q⟩), h.symm⟩
theorem dro_0 {m : Nat} : dro m [] = [] := by unfold dro; split <;> rfl
theorem rsa_00 : ∀ n : Nat, rsa n [] []
  | 0 => ⟨rfl, rfl⟩
  | n + 1 => by
    show rsa n (dro _ []) (dro _ [])
    rw [dro_0]; exact rsa_00 n
theorem mxh_0 {g : Nat} {a b : List Nat} (ha : Fall g a) (hb : Fall g b) (h : mxh a b = 0) : a = [] ∧ b = [] := ⟨enc_e ha (by unfold mxh at h; omega), enc_e hb (by unfold mxh at h; omega)⟩
theorem mrg_u : ∀ (n : Nat) {g : Nat} {a b : List Nat}, Fall g a → Fall g b → (rsa n a b → upL (mrg n a b) = mergeL (upL a) (upL b)) ∧ (¬ rsa n a b → n < (mergeL (upL a) (upL b)).length)
  | 0, g, a, b, ha, hb => by
    refine ⟨fun h => ?_, fun h => ?_⟩
    · rw [h.1, h.2]
      show upL [] = mergeL [] []
      rw [mg_0]; rfl
    · by_cases m0 : mxh a b = 0
      · exact absurd (mxh_0 ha hb m0) h
      · rw [mu_s ha hb m0, List.length_append]; show 0 < _ + 1; omega
  | n + 1, g, a, b, ha, hb => by
    by_cases m0 : mxh a b = 0
    · obtain ⟨ea, eb⟩ := mxh_0 ha hb m0
      subst ea; subst eb
      refine ⟨fun _ => ?_, fun h => absurd (rsa_00 (n + 1)) h⟩
      rw [mrg_00]
      show upL [] = mergeL [] []
      rw [mg_0]; rfl
    · obtain ⟨h1, h2⟩ := mrg_u n (g := g) (Fall_d (m := mxh a b) ha) (Fall_d (m := mxh a b) hb)
      refine ⟨fun h => ?_, fun h => ?_⟩
      · rw [mrg, if_neg m0, up_c, h1 h, mu_s ha hb m0]
      · rw [mu_s ha hb m0, List.length_append]
        have := h2 h
        show n + 1 < _ + 1
        omega
theorem prt_s : ∀ (w c : List Nat) {g : Nat}, Fall g c → Fall g w → (prt c w = [] ↔ ∀ x ∈ c, x ∈ w)
  | [], c, g, hc, hw => by
    show c = [] ↔ _
    exact ⟨fun h => by rw [h]; exact fun x hx => hx, fun h => by
      cases c with
      | nil => rfl
      | cons a c => exact absurd (h a (List.mem_cons_self ..)) (List.not_mem_nil)⟩
  | b :: w, c, g, hc, hw => by
    show prt (dro b c) w = [] ↔ _
    have b0 := hw.1
    rw [prt_s w (dro b c) (Fall_d hc) (Fall_t hw : Fall g w)]
    cases c with
    | nil => rw [dro_0]; exact ⟨fun _ x hx => absurd hx (List.not_mem_nil), fun _ x hx => absurd hx (List.not_mem_nil)⟩
    | cons a c =>
      unfold dro
      by_cases e : a = b
      · rw [if_pos (show (a :: c).headD 0 = b from e)]
        show (∀ x ∈ c, x ∈ w) ↔ _
        constructor
        · intro h x hx
          rcases List.mem_cons.mp hx with q | q
          · rw [q, e]; exact List.mem_cons_self ..
          · exact List.mem_cons_of_mem _ (h x q)
        · intro h x hx
          rcases List.mem_cons.mp (h x (List.mem_cons_of_mem _ hx)) with q | q
          · have := Fall_lt hc.2 hx; omega
          · exact q
      · rw [if_neg (show ¬ (a :: c).headD 0 = b from e)]
        constructor
        · exact fun h x hx => List.mem_cons_of_mem _ (h x hx)
        · intro h x hx
          rcases List.mem_cons.mp (h x hx) with q | q
          · exfalso
            have aw : a ∈ w := by
              rcases List.mem_cons.mp (h a (List.mem_cons_self ..)) with k | k
              · exact absurd k e
              · exact k
            have l1 := Fall_lt hw.2 aw
            rcases List.mem_cons.mp hx with k | k
            · omega
            · have := Fall_lt hc.2 k; omega
          · exact q
theorem prt_i {g : Nat} {c w : List Nat} (hc : Fall g c) (hw : Fall g w) : prt c w = [] ↔ isPartL (upL c) (upL w) = true := by
  rw [prt_s w c hc hw, ip_iff (up_sd hc) (up_sd hw)]
  constructor
  · intro h x hx
    obtain ⟨a, h1, h2⟩ := up_m.mp hx
    exact up_m.mpr ⟨a, h a h1, h2⟩
  · intro h x hx
    exact up_n.mp (h x (up_n.mpr hx))
def Mkp (m : Int64) (l : List Nat) : Prop := ∀ k : Nat, (nv m).testBit k = true ↔ ∃ a ∈ l, a % 64 = k
def msL : List Nat → Nat
  | [] => 0
  | a :: l => 2 ^ (a % 64) ||| msL l
theorem ms_b : ∀ (l : List Nat) (k : Nat), (msL l).testBit k = true ↔ ∃ a ∈ l, a % 64 = k
  | [], k => by
    rw [msL, Nat.zero_testBit]
    exact ⟨fun h => (by cases h), fun ⟨a, h, _⟩ => absurd h (List.not_mem_nil)⟩
  | a :: l, k => by
    rw [msL, Nat.testBit_or, Bool.or_eq_true, ms_b l k, Nat.testBit_two_pow, decide_eq_true_eq]
    constructor
    · rintro (h | ⟨b, h1, h2⟩)
      · exact ⟨a, List.mem_cons_self .., h⟩
      · exact ⟨b, List.mem_cons_of_mem _ h1, h2⟩
    · rintro ⟨b, h1, h2⟩
      rcases List.mem_cons.mp h1 with q | q
      · exact Or.inl (by rw [← q]; exact h2)
      · exact Or.inr ⟨b, q, h2⟩
theorem pcN_0 : ∀ k : Nat, pcN k 0 = 0
  | 0 => rfl
  | k + 1 => by
    show 0 % 2 + pcN k (0 / 2) = 0
    rw [Nat.zero_div, pcN_0 k]
theorem pcN_or : ∀ (k x y : Nat), pcN k (x ||| y) ≤ pcN k x + pcN k y
  | 0, x, y => Nat.le_refl 0
  | k + 1, x, y => by
    show (x ||| y) % 2 + pcN k ((x ||| y) / 2) ≤ x % 2 + pcN k (x / 2) + (y % 2 + pcN k (y / 2))
    have h := pcN_or k (x / 2) (y / 2)
    have e : (x ||| y) / 2 = x / 2 ||| y / 2 := Nat.or_div_two
    have b : (x ||| y) % 2 ≤ x % 2 + y % 2 := by
      have z : (x ||| y) % 2 = 1 ↔ x % 2 = 1 ∨ y % 2 = 1 := Nat.or_mod_two_eq_one
      omega
    rw [e]
    omega
theorem pcN_p : ∀ (k j : Nat), pcN k (2 ^ j) ≤ 1
  | 0, j => Nat.zero_le _
  | k + 1, 0 => by
    show 1 % 2 + pcN k (1 / 2) ≤ 1
    rw [show 1 / 2 = 0 from rfl, pcN_0]; decide
  | k + 1, j + 1 => by
    show 2 ^ (j + 1) % 2 + pcN k (2 ^ (j + 1) / 2) ≤ 1
    have h := pcN_p k j
    have e : 2 ^ (j + 1) = 2 * 2 ^ j := by rw [Nat.pow_succ]; omega
    rw [e, Nat.mul_mod_right, Nat.mul_div_cancel_left _ (by decide)]
    omega
theorem pcN_ms : ∀ l : List Nat, pcN 64 (msL l) ≤ l.length
  | [] => Nat.le_of_eq (pcN_0 64)
  | a :: l => by
    have h1 := pcN_or 64 (2 ^ (a % 64)) (msL l)
    have h2 := pcN_p 64 (a % 64)
    have h3 := pcN_ms l
    show pcN 64 (2 ^ (a % 64) ||| msL l) ≤ l.length + 1
    omega
theorem Mkp_b {m : Int64} {l : List Nat} (h : Mkp m l) : pcN 64 (nv m) ≤ l.length := by
  have e : nv m = msL l := Nat.eq_of_testBit_eq (fun k => Bool.eq_iff_iff.mpr ((h k).trans (ms_b l k).symm))
  rw [e]; exact pcN_ms l
theorem Mkp_or {m w : Int64} {a b c : List Nat} (ha : Mkp m a) (hb : Mkp w b) (hc : ∀ x : Nat, x ∈ c ↔ x ∈ a ∨ x ∈ b) : Mkp (m ||| w) c := fun k => by
  rw [nv_or, Nat.testBit_or, Bool.or_eq_true, ha k, hb k]
  constructor
  · rintro (⟨x, h1, h2⟩ | ⟨x, h1, h2⟩)
    · exact ⟨x, (hc x).mpr (Or.inl h1), h2⟩
    · exact ⟨x, (hc x).mpr (Or.inr h1), h2⟩
  · rintro ⟨x, h1, h2⟩
    rcases (hc x).mp h1 with q | q
    · exact Or.inl ⟨x, q, h2⟩
    · exact Or.inr ⟨x, q, h2⟩
theorem mg_nat {g : Nat} {a b : List Nat} (x : Nat) : x ∈ (mergeL (upL a) (upL b)).map Int.toNat ↔ x ∈ a ∨ x ∈ b := by
  rw [List.mem_map]
  constructor
  · rintro ⟨z, h1, h2⟩
    rcases mg_mem.mp h1 with q | q <;> (obtain ⟨c, h3, h4⟩ := up_m.mp q)
    · exact Or.inl (by rw [show x = c by omega]; exact h3)
    · exact Or.inr (by rw [show x = c by omega]; exact h3)
  · rintro (h | h)
    · exact ⟨x, mg_mem.mpr (Or.inl (up_n.mpr h)), Int.toNat_natCast x⟩
    · exact ⟨x, mg_mem.mpr (Or.inr (up_n.mpr h)), Int.toNat_natCast x⟩
theorem bc_le {a b : List Nat} {m w : Int64} {r : Int32} (ha : Mkp m a) (hb : Mkp w b) (h : fJLong_bitCount_J (m ||| w) = some r) : r.toInt ≤ ((mergeL (upL a) (upL b)).length : Int) := by
  have z := Mkp_b (Mkp_or ha hb (c := (mergeL (upL a) (upL b)).map Int.toNat) (fun x => mg_nat (g := 0) x))
  rw [List.length_map] at z
  rw [bc_sp h]
  omega
theorem mgs_len {X Y : List Int} (hX : Sd X) (hY : Sd Y) : X.length ≤ (mergeL X Y).length ∧ Y.length ≤ (mergeL X Y).length := ⟨(sd_len hX (mg_sd hX hY) (fun x hx => mg_mem.mpr (Or.inl hx))).1, (sd_len hY (mg_sd hX hY) (fun x hx => mg_mem.mpr (Or.inr hx))).1⟩
theorem enc_ge : ∀ {l : List Nat} {g : Nat}, Fall g l → ¬ l = [] → 256 ^ (l.length - 1) ≤ enc l
  | [], _, _, h => absurd rfl h
  | [a], g, h, _ => by
    have := h.1.1
    show 256 ^ 0 ≤ a + 256 * 0
    omega
  | a :: b :: l, g, h, _ => by
    have z := enc_ge h.2 (by intro q; cases q)
    show 256 ^ (l.length + 1) ≤ a + 256 * enc (b :: l)
    have e : 256 ^ (l.length + 1) = 256 * 256 ^ l.length := by rw [Nat.pow_succ]; omega
    have z : 256 ^ l.length ≤ enc (b :: l) := z
    rw [e]
    omega
theorem enc_w {l : List Nat} {g s : Nat} (h : Fall g l) (hg : g ≤ 256) : enc l < 256 ^ s ↔ l.length ≤ s := by
  constructor
  · intro q
    by_cases e : l = []
    · rw [e]; exact Nat.zero_le _
    · have z := enc_ge h e
      rcases Nat.lt_or_ge s l.length with k | k
      · have : 256 ^ s ≤ 256 ^ (l.length - 1) := Nat.pow_le_pow_right (by decide) (by omega)
        omega
      · exact k
  · intro q
    exact Nat.lt_of_lt_of_le (enc_lt h hg) (Nat.pow_le_pow_right (by decide) q)
theorem lgc_n {a b : Int64} (ha : nv a < 9223372036854775808) (hb : nv b < 9223372036854775808) : 0 ≤ lg_cmp a b ↔ nv b ≤ nv a := by
  have e1 : a.toInt = (nv a : Int) := l_nn' (z := a) ha
  have e2 : b.toInt = (nv b : Int) := l_nn' (z := b) hb
  have t := lg_cmp_lt a b
  rw [Int64.lt_iff_toInt_lt, e1, e2] at t
  constructor
  · intro h
    rcases Nat.lt_or_ge (nv a) (nv b) with q | q
    · have := Int32.lt_iff_toInt_lt.mp (t.mpr (by omega))
      have := Int32.le_iff_toInt_le.mp h
      have e0 : (0 : Int32).toInt = 0 := rfl
      omega
    · exact q
  · intro h
    refine Int32.le_iff_toInt_le.mpr ?_
    rcases Int.lt_or_le (lg_cmp a b).toInt (0 : Int32).toInt with q | q
    · have := t.mp (Int32.lt_iff_toInt_lt.mpr q)
      omega
    · exact q
