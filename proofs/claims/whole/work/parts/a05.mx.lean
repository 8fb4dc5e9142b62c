abbrev Ns (S : Nat → Prop) (f : Nat → Int32) (p : Nat) (n : Int) : Prop := ∀ k i : Nat, (k : Int) < n → (i : Int) = (f (p + k)).toInt → S i
abbrev Cd (b G : Int) (on tw : Nat → Int32) (S : Nat → Prop) : Prop := ∀ g j i : Nat, (g : Int) < G → (j : Int) = b + (g : Int) → S j → ((i : Int) = (on g).toInt / 2 ∨ (i : Int) = (tw g).toInt / 2) → S i
abbrev Ju (n : Int) (i j : Int32) (jo cs cn : Nat → Int32) : Prop := ∀ S : Nat → Prop, Ns S cn (5 * i.toNatClampNeg) (cs i.toNatClampNeg).toInt → Ns S cn (5 * j.toNatClampNeg) (cs j.toNatClampNeg).toInt → Ns S jo 0 n
theorem Ju_0 (i j : Int32) (jo cs cn : Nat → Int32) : Ju 0 i j jo cs cn := fun S _ _ k i' h => by exfalso; omega
theorem Ju_l {n n2 : Int} {i j v : Int32} {jo cs cn : Nat → Int32} {q k : Nat} (h : Ju n i j jo cs cn) (hv : v.toInt = (cn (5 * i.toNatClampNeg + k)).toInt) (hn : n2 = n + 1) (hq : (q : Int) = n) (hk2 : (k : Int) < (cs i.toNatClampNeg).toInt) : Ju n2 i j (upd jo q v) cs cn := fun S h1 h2 k' x hk' hx => by
  by_cases e : k' = q
  · subst e
    rw [Nat.zero_add, up_s, hv] at hx
    exact h1 k x hk2 hx
  · rw [Nat.zero_add, up_o e] at hx
    exact h S h1 h2 k' x (by omega) (by rw [Nat.zero_add]; exact hx)
theorem Ju_r {n n2 : Int} {i j v : Int32} {jo cs cn : Nat → Int32} {q k : Nat} (h : Ju n i j jo cs cn) (hv : v.toInt = (cn (5 * j.toNatClampNeg + k)).toInt) (hn : n2 = n + 1) (hq : (q : Int) = n) (hk2 : (k : Int) < (cs j.toNatClampNeg).toInt) : Ju n2 i j (upd jo q v) cs cn := fun S h1 h2 k' x hk' hx => by
  by_cases e : k' = q
  · subst e
    rw [Nat.zero_add, up_s, hv] at hx
    exact h2 k x hk2 hx
  · rw [Nat.zero_add, up_o e] at hx
    exact h S h1 h2 k' x (by omega) (by rw [Nat.zero_add]; exact hx)
theorem tn_p {x : Int32} (h : 0 ≤ x.toInt) : (x.toNatClampNeg : Int) = x.toInt := by have := tn_n x; omega
abbrev Jq (n u w : Int) (i j : Int32) (cs cn : Nat → Int32) : Prop := (cs i.toNatClampNeg).toInt = 1 → (cs j.toNatClampNeg).toInt = 1 → ¬ (cn (5 * i.toNatClampNeg)).toInt = (cn (5 * j.toNatClampNeg)).toInt → n = u + w
theorem Jq_1 {n n2 u u2 w w2 : Int} {i j : Int32} {cs cn : Nat → Int32} (h : Jq n u w i j cs cn) (hn : n2 = n + 1) (hs : u2 + w2 = u + w + 1) : Jq n2 u2 w2 i j cs cn := fun h1 h2 h3 => by have := h h1 h2 h3; omega
theorem Jq_2 {n n2 u w u2 w2 : Int} {i j x y : Int32} {cs cn : Nat → Int32} {k l : Nat} (hx : x.toInt = (cn (5 * i.toNatClampNeg + k)).toInt) (hy : y.toInt = (cn (5 * j.toNatClampNeg + l)).toInt) (hxy : x.toInt = y.toInt) (hk : (k : Int) < (cs i.toNatClampNeg).toInt) (hl : (l : Int) < (cs j.toNatClampNeg).toInt) : Jq n2 u2 w2 i j cs cn := fun h1 h2 h3 => by
  exfalso
  have ek : k = 0 := by omega
  have el : l = 0 := by omega
  subst ek el
  exact h3 (hx.symm.trans (hxy.trans hy))
abbrev Kd (n m k : Int) (cc cs cn jo cc2 cs2 cn2 : Nat → Int32) : Prop := (cc2 n.toNat).toInt = (cc n.toNat).toInt + 1 ∧ (∀ i : Nat, ¬ i = n.toNat → cc2 i = cc i) ∧ (∀ c : Nat, (c : Int) = 301 * n + (cc n.toNat).toInt → (cs2 c).toInt = m) ∧ (∀ c : Nat, ¬ (c : Int) = 301 * n + (cc n.toNat).toInt → cs2 c = cs c) ∧ (∀ j i : Nat, (j : Int) = 5 * (301 * n + (cc n.toNat).toInt) + (i : Int) → (i : Int) < k → cn2 j = jo i) ∧ (∀ j : Nat, ((j : Int) < 5 * (301 * n + (cc n.toNat).toInt) ∨ 5 * (301 * n + (cc n.toNat).toInt) + k ≤ (j : Int)) → cn2 j = cn j)
theorem Kd_0 {n m : Int} {cc cs cn jo : Nat → Int32} {a i : Nat} {c2 v : Int32} (ha : a = n.toNat) (hc : c2.toInt = (cc a).toInt + 1) (hi : (i : Int) = 301 * n + (cc a).toInt) (hv : v.toInt = m) : Kd n m 0 cc cs cn jo (upd cc a c2) (upd cs i v) cn := by
  subst ha
  refine ⟨by rw [up_s]; exact hc, fun i' h' => up_o h', fun c h => ?_, fun c h => ?_, fun j i' _ h => by omega, fun j _ => rfl⟩
  · rw [show c = i by omega, up_s]; exact hv
  · exact up_o (by omega)
theorem Kd_s {n m k k2 : Int} {cc cs cn jo cc2 cs2 cn2 : Nat → Int32} {p q : Nat} {v : Int32} (h : Kd n m k cc cs cn jo cc2 cs2 cn2) (hk : k2 = k + 1) (hp : (p : Int) = 5 * (301 * n + (cc n.toNat).toInt) + k) (hq : (q : Int) = k) (hv : v.toInt = (jo q).toInt) : Kd n m k2 cc cs cn jo cc2 cs2 (upd cn2 p v) := by
  obtain ⟨h1, h2, h3, h4, h5, h6⟩ := h
  refine ⟨h1, h2, h3, h4, fun j i hj hi => ?_, fun j hj => ?_⟩
  · by_cases e : j = p
    · rw [e, up_s]
      exact (i_eq hv).trans (congrArg jo (show q = i by omega))
    · rw [up_o e]; exact h5 j i hj (by omega)
  · rw [up_o (by omega)]; exact h6 j (by omega)
abbrev Tc (n m : Int) (cc cs cn jo cc2 cs2 cn2 : Nat → Int32) : Prop := (cc2 = cc ∧ cs2 = cs ∧ cn2 = cn) ∨ Kd n m m cc cs cn jo cc2 cs2 cn2
abbrev Cx (n a d b G : Int) (on tw cc cs cn : Nat → Int32) : Prop := ∀ c : Nat, 301 * n ≤ (c : Int) → (c : Int) < 301 * n + (cc n.toNat).toInt → ∀ S : Nat → Prop, Cd b G on tw S → (∀ i : Nat, (i : Int) = a ∨ (i : Int) = d → S i) → Ns S cn (5 * c) (cs c).toInt
theorem Cx_0 {n a d b G : Int} {on tw cc cs cn : Nat → Int32} {i : Nat} {v : Int32} (hi : i = n.toNat) (hv : v.toInt = 0) : Cx n a d b G on tw (upd cc i v) cs cn := fun c h1 h2 => by
  rw [← hi, up_s] at h2; exfalso; omega
abbrev Jp (m a d b G : Int) (on tw jo : Nat → Int32) : Prop := ∀ S : Nat → Prop, Cd b G on tw S → (∀ i : Nat, (i : Int) = a ∨ (i : Int) = d → S i) → Ns S jo 0 m
theorem Cx_t {n m a d b G : Int} {on tw cc cs cn jo cc2 cs2 cn2 : Nat → Int32} (h : Cx n a d b G on tw cc cs cn) (ht : Tc n m cc cs cn jo cc2 cs2 cn2) (hj : Jp m a d b G on tw jo) (hb : ∀ c, (cs c).toInt ≤ 5) (hn : 0 ≤ n) (hc : 0 ≤ (cc n.toNat).toInt) : Cx n a d b G on tw cc2 cs2 cn2 := by
  rcases ht with ⟨rfl, rfl, rfl⟩ | ⟨h1, h2, h3, h4, h5, h6⟩
  · exact h
  · intro c q1 q2 S hS hi k i hk he
    by_cases e : (c : Int) = 301 * n + (cc n.toNat).toInt
    · rw [h3 c e] at hk
      refine hj S hS hi k i hk ?_
      rw [Nat.zero_add, ← h5 (5 * c + k) k (by omega) hk]; exact he
    · rw [h4 c e] at hk
      have := hb c
      rw [h6 (5 * c + k) (Or.inl (by omega))] at he
      exact h c q1 (by omega) S hS hi k i hk he
abbrev Cz (N b G : Int) (on tw cc cs cn : Nat → Int32) : Prop := ∀ n c : Nat, (n : Int) < N → 301 * (n : Int) ≤ (c : Int) → (c : Int) ≤ 301 * (n : Int) + (cc n).toInt → ∀ S : Nat → Prop, Cd b G on tw S → S n → Ns S cn (5 * c) (cs c).toInt
theorem Cz_0 {N b G : Int} {on tw cc cs cn : Nat → Int32} (h : N ≤ 0) : Cz N b G on tw cc cs cn := fun n c hn => by exfalso; omega
theorem Cz_w {N b G : Int} {on tw cc cs cn cc2 cs2 cn2 : Nat → Int32} (h : Cz N b G on tw cc cs cn) (hb : ∀ c, (cs c).toInt ≤ 5) (hcc : ∀ n, (cc n).toInt ≤ 300) (h1 : ∀ i : Nat, (i : Int) < N → cc2 i = cc i) (h2 : ∀ c : Nat, (c : Int) < 301 * N → cs2 c = cs c) (h3 : ∀ j : Nat, (j : Int) < 1505 * N → cn2 j = cn j) : Cz N b G on tw cc2 cs2 cn2 := fun n c hn q1 q2 S hS hs k i hk he => by
  rw [h1 n hn] at q2
  have b1 := hcc n
  rw [h2 c (by omega)] at hk
  have b2 := hb c
  rw [h3 (5 * c + k) (by omega)] at he
  exact h n c hn q1 q2 S hS hs k i hk he
theorem Cz_u {N b G : Int} {on tw cc cs cn : Nat → Int32} {i : Nat} {v : Int32} (h : Cz N b G on tw cc cs cn) (hi : N ≤ (i : Int)) : Cz N b G on tw (upd cc i v) cs cn := fun n c hn q1 q2 => by
  rw [up_o (by omega)] at q2
  exact h n c hn q1 q2
theorem Cz_t {N n m b G : Int} {on tw cc cs cn jo cc2 cs2 cn2 : Nat → Int32} (h : Cz N b G on tw cc cs cn) (ht : Tc n m cc cs cn jo cc2 cs2 cn2) (hb : ∀ c, (cs c).toInt ≤ 5) (hcc : ∀ n, (cc n).toInt ≤ 300) (hc : 0 ≤ (cc n.toNat).toInt) (hN : N ≤ n) (hn : 0 ≤ N) : Cz N b G on tw cc2 cs2 cn2 := by
  rcases ht with ⟨rfl, rfl, rfl⟩ | ⟨h1, h2, h3, h4, h5, h6⟩
  · exact h
  · exact Cz_w h hb hcc (fun i hi => h2 i (by omega)) (fun c q => h4 c (by omega)) (fun j q => h6 j (Or.inl (by omega)))
abbrev An (n : Int) (v : Int32) (cc f g : Nat → Int32) : Prop := ∀ j : Nat, ((j : Int) = 5 * (301 * n + (cc n.toNat).toInt) → (g j).toInt = v.toInt) ∧ (¬ (j : Int) = 5 * (301 * n + (cc n.toNat).toInt) → g j = f j)
theorem An_u {n : Int} {v : Int32} {cc f : Nat → Int32} {i a : Nat} (ha : a = n.toNat) (hi : (i : Int) = 5 * (301 * n + (cc a).toInt)) : An n v cc f (upd f i v) := fun j => by
  subst ha
  refine ⟨fun h => ?_, fun h => up_o (by omega)⟩
  rw [show j = i by omega, up_s]
theorem Cz_a {N N2 b G : Int} {v : Int32} {on tw cc cs cn cs2 cn2 : Nat → Int32} (h : Cz N b G on tw cc cs cn) (hx : ∀ c : Nat, 301 * N ≤ (c : Int) → (c : Int) < 301 * N + (cc N.toNat).toInt → ∀ S : Nat → Prop, Cd b G on tw S → S N.toNat → Ns S cn (5 * c) (cs c).toInt) (ha : Al N cc cs cs2) (hn : An N v cc cn cn2) (hv : v.toInt = N) (hN : N2 = N + 1) (h0 : 0 ≤ N) (hb : ∀ c, (cs c).toInt ≤ 5) (hcc : ∀ n, 0 ≤ (cc n).toInt ∧ (cc n).toInt ≤ 300) : Cz N2 b G on tw cc cs2 cn2 := by
  have hl := hcc N.toNat
  have hz : Cz N b G on tw cc cs2 cn2 := Cz_w h hb (fun n => (hcc n).2) (fun _ _ => rfl) (fun c q => (ha c).2 (by omega)) (fun j q => (hn j).2 (by omega))
  intro n c q q1 q2 S hS hs k i hk he
  by_cases e : (n : Int) = N
  · have en : n = N.toNat := by omega
    subst en
    by_cases e2 : (c : Int) = 301 * N + (cc N.toNat).toInt
    · have := (ha c).1 e2
      have ek : k = 0 := by omega
      subst ek
      rw [(hn (5 * c + 0)).1 (by omega), hv] at he
      rw [show i = N.toNat by omega]; exact hs
    · rw [(ha c).2 e2] at hk
      have b2 := hb c
      rw [(hn (5 * c + k)).2 (by omega)] at he
      exact hx c (by omega) (by omega) S hS hs k i hk he
  · exact hz n c (by omega) q1 q2 S hS hs k i hk he
theorem Cz_i {N N2 b G : Int} {v : Int32} {on tw cc cs cn cs2 cn2 : Nat → Int32} (h : Cz N b G on tw cc cs cn) (ha : Al N cc cs cs2) (hn : An N v cc cn cn2) (hv : v.toInt = N) (hN : N2 = N + 1) (h0 : 0 ≤ N) (hb : ∀ c, (cs c).toInt ≤ 5) (hcc : ∀ n, 0 ≤ (cc n).toInt ∧ (cc n).toInt ≤ 300) (hz : (cc N.toNat).toInt = 0) : Cz N2 b G on tw cc cs2 cn2 :=
  Cz_a h (fun c q1 q2 => by exfalso; omega) ha hn hv hN h0 hb hcc
theorem Cz_g {N N2 b G : Int} {v : Int32} {on tw cc cs cn cs2 cn2 : Nat → Int32} {g : Nat} {a d : Int} (h : Cz N b G on tw cc cs cn) (hx : Cx N a d b G on tw cc cs cn) (hg : (g : Int) < G) (hj : N = b + (g : Int)) (hea : a = (on g).toInt / 2) (hed : d = (tw g).toInt / 2) (ha : Al N cc cs cs2) (hn : An N v cc cn cn2) (hv : v.toInt = N) (hN : N2 = N + 1) (h0 : 0 ≤ N) (hb : ∀ c, (cs c).toInt ≤ 5) (hcc : ∀ n, 0 ≤ (cc n).toInt ∧ (cc n).toInt ≤ 300) : Cz N2 b G on tw cc cs2 cn2 :=
  Cz_a h (fun c q1 q2 S hS hs => hx c q1 q2 S hS (fun i hi => hS g N.toNat i hg (by omega) hs (by omega))) ha hn hv hN h0 hb hcc
theorem Cx_a {n a d b G : Int} {v : Int32} {on tw cc cs cn cs2 cn2 : Nat → Int32} (h : Cx n a d b G on tw cc cs cn) (ha : Al n cc cs cs2) (hn : An n v cc cn cn2) (hb : ∀ c, (cs c).toInt ≤ 5) : Cx n a d b G on tw cc cs2 cn2 := fun c q1 q2 S hS hi k i hk he => by
  rw [(ha c).2 (by omega)] at hk
  have b2 := hb c
  rw [(hn (5 * c + k)).2 (by omega)] at he
  exact h c q1 q2 S hS hi k i hk he
theorem Jp_i {N b G n m a d : Int} {i j : Int32} {on tw cc cs cn jo : Nat → Int32} (hu : Ju n i j jo cs cn) (h : Cz N b G on tw cc cs cn) (ha : 0 ≤ a ∧ a < N) (hd : 0 ≤ d ∧ d < N) (hi : 301 * a ≤ i.toInt ∧ i.toInt ≤ 301 * a + (cc a.toNat).toInt) (hj : 301 * d ≤ j.toInt ∧ j.toInt ≤ 301 * d + (cc d.toNat).toInt) (hm : m ≤ n) : Jp m a d b G on tw jo := fun S hS hs k x hk he => by
  have ti := tn_n i
  have tj := tn_n j
  exact hu S (h a.toNat i.toNatClampNeg (by omega) (by omega) (by omega) S hS (hs a.toNat (by omega))) (h d.toNat j.toNatClampNeg (by omega) (by omega) (by omega) S hS (hs d.toNat (by omega))) k x (by omega) he
abbrev Ir (i a : Int) (cc : Nat → Int32) : Prop := 301 * a ≤ i ∧ i ≤ 301 * a + (cc a.toNat).toInt
theorem Ir_t {i a n m : Int} {cc cs cn jo cc2 cs2 cn2 : Nat → Int32} (h : Ir i a cc) (ht : Tc n m cc cs cn jo cc2 cs2 cn2) (hn : ¬ a.toNat = n.toNat) : Ir i a cc2 := by
  rcases ht with ⟨rfl, rfl, rfl⟩ | ⟨h1, h2, h3, h4, h5, h6⟩
  · exact h
  · unfold Ir; rw [h2 _ hn]; exact h
abbrev Cy (N b G : Int) (on tw cc cs cn : Nat → Int32) : Prop := ∀ g : Nat, (g : Int) < N → Cx (b + (g : Int)) ((on g).toInt / 2) ((tw g).toInt / 2) b G on tw cc cs cn
theorem Cy_0 {N b G : Int} {on tw cc cs cn : Nat → Int32} (h : N ≤ 0) : Cy N b G on tw cc cs cn := fun g hg => by exfalso; omega
theorem ix_e {f : Nat → Int32} {i j : Nat} {x : Int32} (e : x.toInt = (f i).toInt) (h : i = j) : x.toInt = (f j).toInt := by rw [e, h]
abbrev Jr (n : Int) (i j : Int32) (cs cn : Nat → Int32) : Prop := (cs i.toNatClampNeg).toInt = 1 → (cs j.toNatClampNeg).toInt = 1 → ¬ (cn (5 * i.toNatClampNeg)).toInt = (cn (5 * j.toNatClampNeg)).toInt → n = 2
theorem Kd_s' {n m k k2 : Int} {cc cs cn jo cc2 cs2 cn2 : Nat → Int32} {p q a : Nat} {v : Int32} (h : Kd n m k cc cs cn jo cc2 cs2 cn2) (ha : a = n.toNat) (hk : k2 = k + 1) (hp : (p : Int) = 5 * (301 * n + (cc a).toInt) + k) (hq : (q : Int) = k) (hv : v.toInt = (jo q).toInt) : Kd n m k2 cc cs cn jo cc2 cs2 (upd cn2 p v) := by
  subst ha
  exact Kd_s h hk hp hq hv
theorem Kd_e {n m k : Int} {cc cs cn jo cc2 cs2 cn2 : Nat → Int32} (h : Kd n m k cc cs cn jo cc2 cs2 cn2) (hk : k = m) : Kd n m m cc cs cn jo cc2 cs2 cn2 := by subst hk; exact h
theorem Ce_r (n : Int) (f : Nat → Int32) : Ce n f f := fun _ _ => rfl
theorem Ce_u {n : Int} {f g : Nat → Int32} {i : Nat} {v : Int32} (h : Ce n f g) (hi : n ≤ (i : Int)) : Ce n f (upd g i v) := fun j hj => by
  rw [up_o (by omega)]; exact h j hj
theorem Ce_tr {n : Int} {f g h : Nat → Int32} (h1 : Ce n f g) (h2 : Ce n g h) : Ce n f h := fun c hc => (h2 c hc).trans (h1 c hc)
theorem Ce_w {n n2 : Int} {f g : Nat → Int32} (h : Ce n f g) (hn : n2 ≤ n) : Ce n2 f g := fun j hj => h j (by omega)
theorem Tc_57 {n m N : Int} {cc cs cn jo cc2 cs2 cn2 : Nat → Int32} (ht : Tc n m cc cs cn jo cc2 cs2 cn2) (hN : N ≤ n) : Ce N cc cc2 := by
  rcases ht with ⟨rfl, rfl, rfl⟩ | ⟨h1, h2, h3, h4, h5, h6⟩
  · exact Ce_r _ _
  · exact fun i hi => h2 i (by omega)
theorem Tc_58 {n m N : Int} {cc cs cn jo cc2 cs2 cn2 : Nat → Int32} (ht : Tc n m cc cs cn jo cc2 cs2 cn2) (hN : N ≤ 1505 * n) (hc : 0 ≤ (cc n.toNat).toInt) : Ce N cn cn2 := by
  rcases ht with ⟨rfl, rfl, rfl⟩ | ⟨h1, h2, h3, h4, h5, h6⟩
  · exact Ce_r _ _
  · exact fun i hi => h6 i (Or.inl (by omega))
theorem An_58 {n N : Int} {v : Int32} {cc f g : Nat → Int32} (h : An n v cc f g) (hN : N ≤ 1505 * n) (hc : 0 ≤ (cc n.toNat).toInt) : Ce N f g := fun j hj => (h j).2 (by omega)
theorem Cy_s {N N2 b G n a d : Int} {on tw cc cs cn cc2 cs2 cn2 : Nat → Int32} {g : Nat} (h : Cy N b G on tw cc cs cn) (hx : Cx n a d b G on tw cc2 cs2 cn2) (hN : N2 = N + 1) (hg : (g : Int) = N) (hn : n = b + N) (ha : a = (on g).toInt / 2) (hd : d = (tw g).toInt / 2) (h57 : Ce n cc cc2) (h59 : Lc n cs cs2) (h58 : Ce (1505 * n) cn cn2) (hb : ∀ c, (cs c).toInt ≤ 5) (hcc : ∀ n, (cc n).toInt ≤ 300) (hb0 : 0 ≤ b) : Cy N2 b G on tw cc2 cs2 cn2 := fun g' hg' => by
  by_cases e : (g' : Int) = N
  · have e2 : g' = g := by omega
    subst e2
    rw [show b + (g' : Int) = n by omega, ← ha, ← hd]
    exact hx
  · intro c q1 q2 S hS hi k i hk he
    have l := hcc (b + (g' : Int)).toNat
    rw [h57 _ (by omega)] at q2
    rw [h59 c (by omega)] at hk
    have b2 := hb c
    rw [h58 (5 * c + k) (by omega)] at he
    exact h g' (by omega) c q1 q2 S hS hi k i hk he
abbrev Cq (r b G : Int) (on tw cc cs cn : Nat → Int32) : Prop := r = 1 → Cz (b + G) b G on tw cc cs cn ∧ Cy G b G on tw cc cs cn
theorem Cq_i {r b G N M : Int} {on tw cc cs cn : Nat → Int32} (h1 : Cz N b G on tw cc cs cn) (h2 : Cy M b G on tw cc cs cn) (hN : N = b + M) (hM : G ≤ M) : Cq r b G on tw cc cs cn := fun _ => ⟨fun n c hn => h1 n c (by omega), fun g hg => h2 g (by omega)⟩
theorem Cz_n {N N2 b G : Int} {on tw cc cs cn : Nat → Int32} (h : Cz N b G on tw cc cs cn) (e : N2 = N) : Cz N2 b G on tw cc cs cn := by subst e; exact h
theorem Cz_tk {N n m b G : Int} {on tw jo cc2 cs2 cn2 : Nat → Int32} {o : cf_O} (h : Cz N b G on tw (o.2.1 57) (o.2.1 59) (o.2.1 58)) (ht : Tc n m (o.2.1 57) (o.2.1 59) (o.2.1 58) jo cc2 cs2 cn2) (k : okO I_M o) (hN : N ≤ n) (hn : 0 ≤ N) : Cz N b G on tw cc2 cs2 cn2 := Cz_t h ht (fun c => (k.2 59 c).2) (fun c => (k.2 57 c).2) (k.2 57 _).1 hN hn
theorem Cx_tk {n m a d b G : Int} {on tw jo cc2 cs2 cn2 : Nat → Int32} {o : cf_O} (h : Cx n a d b G on tw (o.2.1 57) (o.2.1 59) (o.2.1 58)) (ht : Tc n m (o.2.1 57) (o.2.1 59) (o.2.1 58) jo cc2 cs2 cn2) (k : okO I_M o) (hj : Jp m a d b G on tw jo) (hn : 0 ≤ n) : Cx n a d b G on tw cc2 cs2 cn2 := Cx_t h ht hj (fun c => (k.2 59 c).2) hn (k.2 57 _).1
theorem Tc_58k {n m N : Int} {jo cc2 cs2 cn2 : Nat → Int32} {o : cf_O} (ht : Tc n m (o.2.1 57) (o.2.1 59) (o.2.1 58) jo cc2 cs2 cn2) (k : okO I_M o) (hN : N ≤ 1505 * n) : Ce N (o.2.1 58) cn2 := Tc_58 ht hN (k.2 57 _).1
theorem Cz_gk {N N2 b G : Int} {v : Int32} {on tw cs2 cn2 : Nat → Int32} {g : Nat} {a d : Int} {o : cf_O} (h : Cz N b G on tw (o.2.1 57) (o.2.1 59) (o.2.1 58)) (hx : Cx N a d b G on tw (o.2.1 57) (o.2.1 59) (o.2.1 58)) (k : okO I_M o) (hg : (g : Int) < G) (hj : N = b + (g : Int)) (hea : a = (on g).toInt / 2) (hed : d = (tw g).toInt / 2) (ha : Al N (o.2.1 57) (o.2.1 59) cs2) (hn : An N v (o.2.1 57) (o.2.1 58) cn2) (hv : v.toInt = N) (hN : N2 = N + 1) (h0 : 0 ≤ N) : Cz N2 b G on tw (o.2.1 57) cs2 cn2 := Cz_g h hx hg hj hea hed ha hn hv hN h0 (fun c => (k.2 59 c).2) (fun c => k.2 57 c)
theorem Cx_ak {n a d b G : Int} {v : Int32} {on tw cs2 cn2 : Nat → Int32} {o : cf_O} (h : Cx n a d b G on tw (o.2.1 57) (o.2.1 59) (o.2.1 58)) (k : okO I_M o) (ha : Al n (o.2.1 57) (o.2.1 59) cs2) (hn : An n v (o.2.1 57) (o.2.1 58) cn2) : Cx n a d b G on tw (o.2.1 57) cs2 cn2 := Cx_a h ha hn (fun c => (k.2 59 c).2)
abbrev Ca (N : Int) (cc cs cn : Nat → Int32) : Prop := ∀ n c : Nat, (n : Int) < N → 1 ≤ n → (c : Int) = 301 * (n : Int) + (cc n).toInt → (cs c).toInt = 1 ∧ (cn (5 * c)).toInt = (n : Int)
theorem Ca_0 {N : Int} {cc cs cn : Nat → Int32} (h : N ≤ 0) : Ca N cc cs cn := fun n c hn => by exfalso; omega
theorem Ca_n {N N2 : Int} {cc cs cn : Nat → Int32} (h : Ca N cc cs cn) (e : N2 = N) : Ca N2 cc cs cn := by subst e; exact h
theorem Ca_u {N : Int} {cc cs cn : Nat → Int32} {i : Nat} {v : Int32} (h : Ca N cc cs cn) (hi : N ≤ (i : Int)) : Ca N (upd cc i v) cs cn := fun n c hn h1 hc => by
  rw [up_o (by omega)] at hc
  exact h n c hn h1 hc
theorem Ca_w {N : Int} {cc cs cn cc2 cs2 cn2 : Nat → Int32} (h : Ca N cc cs cn) (hcc : ∀ n, (cc n).toInt ≤ 300) (h1 : ∀ i : Nat, (i : Int) < N → cc2 i = cc i) (h2 : ∀ c : Nat, (c : Int) < 301 * N → cs2 c = cs c) (h3 : ∀ j : Nat, (j : Int) < 1505 * N → cn2 j = cn j) : Ca N cc2 cs2 cn2 := fun n c hn q1 q2 => by
  rw [h1 n hn] at q2
  have b1 := hcc n
  rw [h2 c (by omega), h3 (5 * c) (by omega)]
  exact h n c hn q1 q2
theorem Ca_tk {N n m : Int} {jo cc2 cs2 cn2 : Nat → Int32} {o : cf_O} (h : Ca N (o.2.1 57) (o.2.1 59) (o.2.1 58)) (ht : Tc n m (o.2.1 57) (o.2.1 59) (o.2.1 58) jo cc2 cs2 cn2) (k : okO I_M o) (hN : N ≤ n) (hn : 0 ≤ N) : Ca N cc2 cs2 cn2 := by
  have hc := (k.2 57 n.toNat).1
  have hc' : 0 ≤ (o.2.1 57 n.toNat).toInt := hc
  rcases ht with ⟨rfl, rfl, rfl⟩ | ⟨h1, h2, h3, h4, h5, h6⟩
  · exact h
  · exact Ca_w h (fun c => (k.2 57 c).2) (fun i hi => h2 i (by omega)) (fun c q => h4 c (by omega)) (fun j q => h6 j (Or.inl (by omega)))
theorem Ca_ak {N N2 : Int} {v : Int32} {cs2 cn2 : Nat → Int32} {o : cf_O} (h : Ca N (o.2.1 57) (o.2.1 59) (o.2.1 58)) (k : okO I_M o) (ha : Al N (o.2.1 57) (o.2.1 59) cs2) (hn : An N v (o.2.1 57) (o.2.1 58) cn2) (hv : v.toInt = N) (h1 : 1 ≤ v.toInt → (cs2 (301 * v.toInt + (o.2.1 57 v.toNatClampNeg).toInt).toNat).toInt = 1) (hN : N2 = N + 1) (h0 : 0 ≤ N) : Ca N2 (o.2.1 57) cs2 cn2 := by
  have hc : 0 ≤ (o.2.1 57 N.toNat).toInt := (k.2 57 N.toNat).1
  have hz : Ca N (o.2.1 57) cs2 cn2 := Ca_w h (fun c => (k.2 57 c).2) (fun _ _ => rfl) (fun c q => (ha c).2 (by omega)) (fun j q => (hn j).2 (by omega))
  intro n c q1 q2 q3
  by_cases e : (n : Int) = N
  · have ev : v.toNatClampNeg = n := by have := tn_n v; omega
    have en : N.toNat = n := by omega
    rw [ev] at h1
    rw [en] at hc
    have h2 := h1 (by omega)
    rw [show (301 * v.toInt + (o.2.1 57 n).toInt).toNat = c by omega] at h2
    refine ⟨h2, ?_⟩
    rw [(hn (5 * c)).1 (by rw [en]; omega)]; omega
  · exact hz n c (by omega) q2 q3
theorem Ca_at {N : Int} {cc cs cn : Nat → Int32} (h : Ca N cc cs cn) (a i : Int32) : 1 ≤ a.toInt → a.toInt < N → 0 ≤ (cc a.toNatClampNeg).toInt → i.toInt = 301 * a.toInt + (cc a.toNatClampNeg).toInt → (cs i.toNatClampNeg).toInt = 1 ∧ (cn (5 * i.toNatClampNeg)).toInt = a.toInt := fun h1 h2 h3 h4 => by
  have ta := tn_n a
  have ti := tn_n i
  have := h a.toNatClampNeg i.toNatClampNeg (by omega) (by omega) (by omega)
  omega
theorem A1_u {f : Nat → Int32} {i : Nat} {v : Int32} {n : Int} (hi : (i : Int) = n) (hv : v.toInt = 1) : (upd f i v n.toNat).toInt = 1 := by
  rw [show n.toNat = i by omega, up_s]; exact hv
def Lb (s i j la ld c z : Int) : Prop := (3 ≤ s ∨ (s = 2 ∧ (la < i ∨ (i = la ∧ ld < j)))) → 1 ≤ c ∨ ¬ z = 0
def Lp (m c z : Int) : Prop := 2 ≤ m → 1 ≤ c ∨ ¬ z = 0
theorem Lb_0 {s i j la ld c z : Int} (h : s ≤ 1) : Lb s i j la ld c z := fun q => by omega
theorem Lb_c {s i j la ld c z : Int} (h : 1 ≤ c) : Lb s i j la ld c z := fun _ => Or.inl h
theorem Lb_step {s i j j2 la ld c z : Int} (h : Lb s i j la ld c z) (hj : j2 = j + 1) (hle : j ≤ ld) (hno : s = 2 → i = la → j = ld → False) : Lb s i j2 la ld c z := fun q => by
  by_cases e1 : s = 2
  · by_cases e2 : i = la
    · by_cases e3 : j = ld
      · exact (hno e1 e2 e3).elim
      · exact h (by omega)
    · exact h (by omega)
  · exact h (by omega)
theorem Lb_a {s i la c z : Int} (h : Lb s (-1) 0 0 0 c z) (hi : i ≤ la) : Lb s i (-1) la 0 c z := fun q => h (by omega)
theorem Lb_b {s i j la ld c z : Int} (h : Lb s i (-1) la 0 c z) (hj : j ≤ ld) : Lb s i j la ld c z := fun q => h (by omega)
theorem Lb_d {s i i2 j la ld c z : Int} (h : Lb s i j la ld c z) (hi : i2 = i + 1) (hx : ld < j ∨ ¬ z = 0) : Lb s i2 (-1) la 0 c z := fun q => by
  rcases hx with hx | hx
  · exact h (by omega)
  · exact Or.inr hx
theorem Lb_e {s s2 i la c z : Int} (h : Lb s i (-1) la 0 c z) (hs : s2 = s + 1) (hx : la < i ∨ ¬ z = 0) : Lb s2 (-1) 0 0 0 c z := fun q => by
  rcases hx with hx | hx
  · exact h (by omega)
  · exact Or.inr hx
theorem Lb_p {s m c c2 z : Int} (h : Lb s (-1) 0 0 0 c z) (hs : m < s) (hc : c2 = c) : Lp m c2 z := fun q => by
  subst hc
  exact h (by omega)
theorem A0_u {f : Nat → Int32} {i : Nat} {v : Int32} {n : Int} (hi : (i : Int) = n) (hv : v.toInt = 0) : (upd f i v n.toNat).toInt = 0 := by
  rw [show n.toNat = i by omega, up_s]; exact hv
theorem lc_o {n n2 : Int} {f g : Nat → Int32} (h : Lc n f g) (e : n2 = n) : Lc n2 f g := by subst e; exact h

def tabL (f : Nat → Int) (n : Nat) : List Int := (List.range n).map f
theorem tab_len (f : Nat → Int) (n : Nat) : (tabL f n).length = n := by unfold tabL; rw [List.length_map, List.length_range]
theorem tab_s (f : Nat → Int) (n : Nat) : tabL f (n + 1) = tabL f n ++ [f n] := by unfold tabL; rw [List.range_succ, List.map_append]; rfl
theorem tab_g (f : Nat → Int) {n k : Nat} (h : k < n) : (tabL f n)[k]? = some (f k) := by
  unfold tabL; rw [List.getElem?_map, List.getElem?_range h]; rfl
theorem dr_cons {α : Type} {l : List α} {k : Nat} {x : α} (h : l[k]? = some x) : l.drop k = x :: l.drop (k + 1) := by
  obtain ⟨h1, h2⟩ := List.getElem?_eq_some_iff.mp h
  rw [List.drop_eq_getElem_cons h1, h2]
theorem dr_nil {α : Type} {l : List α} {k : Nat} (h : l.length ≤ k) : l.drop k = [] := List.drop_eq_nil_of_le h
theorem tab_d {f : Nat → Int} {n k : Nat} (h : k < n) : (tabL f n).drop k = f k :: (tabL f n).drop (k + 1) := dr_cons (tab_g f h)
theorem tab_n {f : Nat → Int} {n k : Nat} (h : n ≤ k) : (tabL f n).drop k = [] := dr_nil (by rw [tab_len]; exact h)
theorem tab_c {f g : Nat → Int} {n : Nat} (h : ∀ k, k < n → f k = g k) : tabL f n = tabL g n := by
  unfold tabL
  exact List.map_congr_left (fun k hk => h k (List.mem_range.mp hk))
def cutL (cs cn : Nat → Int32) (c : Nat) : List Int := tabL (fun k => (cn (5 * c + k)).toInt) (cs c).toInt.toNat
def joL (jo : Nat → Int32) (m : Int) : List Int := tabL (fun k => (jo k).toInt) m.toNat
def rowL (cc cs cn : Nat → Int32) (n : Nat) : List (List Int) := (List.range (cc n).toInt.toNat).map (fun i => cutL cs cn (301 * n + i))
def allL (cc cs cn : Nat → Int32) (n : Nat) : List (List Int) := rowL cc cs cn n ++ [cutL cs cn (301 * n + (cc n).toInt.toNat)]
def mergeL : List Int → List Int → List Int
  | [], y => y
  | x :: xs, [] => x :: xs
  | x :: xs, y :: ys => if x < y then x :: mergeL xs (y :: ys) else if y < x then y :: mergeL (x :: xs) ys else x :: mergeL xs ys
termination_by x y => x.length + y.length
theorem mg_0 (y : List Int) : mergeL [] y = y := by unfold mergeL; rfl
theorem mg_n (x : List Int) : mergeL x [] = x := by cases x <;> (unfold mergeL; rfl)
theorem mg_l {x y : Int} {xs ys : List Int} (h : x < y) : mergeL (x :: xs) (y :: ys) = x :: mergeL xs (y :: ys) := by rw [mergeL]; rw [if_pos h]
theorem mg_r {x y : Int} {xs ys : List Int} (h : y < x) : mergeL (x :: xs) (y :: ys) = y :: mergeL (x :: xs) ys := by rw [mergeL]; rw [if_neg (by omega), if_pos h]
theorem mg_e {x y : Int} {xs ys : List Int} (h : x = y) : mergeL (x :: xs) (y :: ys) = x :: mergeL xs ys := by rw [mergeL]; rw [if_neg (by omega), if_neg (by omega)]
theorem jo_s {jo : Nat → Int32} {n n2 : Int} {q : Nat} {v : Int32} (hn : n2 = n + 1) (hq : (q : Int) = n) : joL (upd jo q v) n2 = joL jo n ++ [v.toInt] := by
  unfold joL
  rw [show n2.toNat = n.toNat + 1 by omega, tab_s, show n.toNat = q by omega, up_s]
  congr 1
  exact tab_c (fun k hk => by rw [up_o (by omega)])
def Mj (n u w : Int) (i j : Nat) (jo cs cn : Nat → Int32) : Prop := joL jo n ++ mergeL ((cutL cs cn i).drop u.toNat) ((cutL cs cn j).drop w.toNat) = mergeL (cutL cs cn i) (cutL cs cn j)
theorem Mj_0 (i j : Nat) (jo cs cn : Nat → Int32) : Mj 0 0 0 i j jo cs cn := by unfold Mj; rfl
theorem cut_d {cs cn : Nat → Int32} {i k : Nat} {v : Int32} (hv : v.toInt = (cn (5 * i + k)).toInt) (hk : (k : Int) < (cs i).toInt) : (cutL cs cn i).drop k = v.toInt :: (cutL cs cn i).drop (k + 1) := by
  unfold cutL
  rw [tab_d (by omega), hv]
theorem cut_n {cs cn : Nat → Int32} {i : Nat} {u : Int} (hk : (cs i).toInt ≤ u) : (cutL cs cn i).drop u.toNat = [] := by
  unfold cutL
  exact tab_n (by omega)
section MJ
variable {n n2 u u2 w w2 : Int} {i j k l q : Nat} {v y : Int32} {jo cs cn : Nat → Int32}
theorem Mj_l0 (h : Mj n u w i j jo cs cn) (hv : v.toInt = (cn (5 * i + k)).toInt) (hk : (k : Int) = u) (hn : n2 = n + 1) (hq : (q : Int) = n) (hu : u2 = u + 1) (hk2 : u < (cs i).toInt) (hw : w2 = w) (hc : (cs j).toInt ≤ w) : Mj n2 u2 w2 i j (upd jo q v) cs cn := by
  unfold Mj at h ⊢
  subst hw
  rw [cut_n hc, mg_n] at h ⊢
  rw [← h, jo_s hn hq, List.append_assoc, show u.toNat = k by omega, cut_d hv (by omega), show u2.toNat = k + 1 by omega]; rfl
theorem Mj_r0 (h : Mj n u w i j jo cs cn) (hv : v.toInt = (cn (5 * j + k)).toInt) (hk : (k : Int) = w) (hn : n2 = n + 1) (hq : (q : Int) = n) (hw : w2 = w + 1) (hk2 : w < (cs j).toInt) (hu : u2 = u) (hc : (cs i).toInt ≤ u) : Mj n2 u2 w2 i j (upd jo q v) cs cn := by
  unfold Mj at h ⊢
  subst hu
  rw [cut_n hc, mg_0] at h ⊢
  rw [← h, jo_s hn hq, List.append_assoc, show w.toNat = k by omega, cut_d hv (by omega), show w2.toNat = k + 1 by omega]; rfl
theorem Mj_l1 (h : Mj n u w i j jo cs cn) (hv : v.toInt = (cn (5 * i + k)).toInt) (hy : y.toInt = (cn (5 * j + l)).toInt) (hk : (k : Int) = u) (hl : (l : Int) = w) (hlt : v.toInt < y.toInt) (hn : n2 = n + 1) (hq : (q : Int) = n) (hu : u2 = u + 1) (hw : w2 = w) (hk2 : u < (cs i).toInt) (hl2 : w < (cs j).toInt) : Mj n2 u2 w2 i j (upd jo q v) cs cn := by
  unfold Mj at h ⊢
  rw [← h, jo_s hn hq, List.append_assoc, show u.toNat = k by omega, show w.toNat = l by omega, show w2.toNat = l by omega, cut_d hv (by omega), cut_d hy (by omega), mg_l hlt, show u2.toNat = k + 1 by omega]; rfl
theorem Mj_r1 (h : Mj n u w i j jo cs cn) (hv : v.toInt = (cn (5 * i + k)).toInt) (hy : y.toInt = (cn (5 * j + l)).toInt) (hk : (k : Int) = u) (hl : (l : Int) = w) (hlt : y.toInt < v.toInt) (hn : n2 = n + 1) (hq : (q : Int) = n) (hu : u2 = u) (hw : w2 = w + 1) (hk2 : u < (cs i).toInt) (hl2 : w < (cs j).toInt) : Mj n2 u2 w2 i j (upd jo q y) cs cn := by
  unfold Mj at h ⊢
  rw [← h, jo_s hn hq, List.append_assoc, show u.toNat = k by omega, show w.toNat = l by omega, show u2.toNat = k by omega, cut_d hv (by omega), cut_d hy (by omega), mg_r hlt, show w2.toNat = l + 1 by omega]; rfl
theorem Mj_b (h : Mj n u w i j jo cs cn) (hv : v.toInt = (cn (5 * i + k)).toInt) (hy : y.toInt = (cn (5 * j + l)).toInt) (hk : (k : Int) = u) (hl : (l : Int) = w) (he : v.toInt = y.toInt) (hn : n2 = n + 1) (hq : (q : Int) = n) (hu : u2 = u + 1) (hw : w2 = w + 1) (hk2 : u < (cs i).toInt) (hl2 : w < (cs j).toInt) : Mj n2 u2 w2 i j (upd jo q y) cs cn := by
  unfold Mj at h ⊢
  rw [← h, jo_s hn hq, List.append_assoc, show u.toNat = k by omega, show w.toNat = l by omega, cut_d hv (by omega), cut_d hy (by omega), mg_e he, show w2.toNat = l + 1 by omega, show u2.toNat = k + 1 by omega, he]; rfl
end MJ
abbrev Mp2 (n : Int) (i j : Nat) (jo cs cn : Nat → Int32) : Prop := joL jo n = mergeL (cutL cs cn i) (cutL cs cn j)
theorem Mj_e {n u w : Int} {i j : Nat} {jo cs cn : Nat → Int32} (h : Mj n u w i j jo cs cn) (h1 : (cs i).toInt ≤ u) (h2 : (cs j).toInt ≤ w) : Mp2 n i j jo cs cn := by
  unfold Mj at h
  rw [cut_n h1, cut_n h2, mg_0, List.append_nil] at h
  exact h
def isPartL : List Int → List Int → Bool
  | [], _ => true
  | _ :: _, [] => false
  | c :: cs, j :: js => if j = c then isPartL cs js else isPartL (c :: cs) js
theorem ip_0 (j : List Int) : isPartL [] j = true := by unfold isPartL; rfl
def Ip (u k : Int) (c : Nat) (m : Int) (jo cs cn : Nat → Int32) : Prop := isPartL ((cutL cs cn c).drop u.toNat) ((joL jo m).drop k.toNat) = isPartL (cutL cs cn c) (joL jo m)
theorem Ip_0 (c : Nat) (m : Int) (jo cs cn : Nat → Int32) : Ip 0 0 c m jo cs cn := by unfold Ip; rfl
theorem jo_d {jo : Nat → Int32} {m : Int} {k : Nat} {v : Int32} (hv : v.toInt = (jo k).toInt) (hk : (k : Int) < m) : (joL jo m).drop k = v.toInt :: (joL jo m).drop (k + 1) := by
  unfold joL
  rw [tab_d (by omega), hv]
section IP
variable {u u2 k k2 m : Int} {c p q : Nat} {x y : Int32} {jo cs cn : Nat → Int32}
theorem Ip_s (h : Ip u k c m jo cs cn) (hx : x.toInt = (cn (5 * c + p)).toInt) (hy : y.toInt = (jo q).toInt) (hp : (p : Int) = u) (hq : (q : Int) = k) (hu : u < (cs c).toInt) (hk : k < m) (hk2 : k2 = k + 1) (hc : (y.toInt = x.toInt ∧ u2 = u + 1) ∨ (¬ y.toInt = x.toInt ∧ u2 = u)) : Ip u2 k2 c m jo cs cn := by
  unfold Ip at h ⊢
  rw [← h, show u.toNat = p by omega, show k.toNat = q by omega, cut_d hx (by omega), jo_d hy (by omega), show k2.toNat = q + 1 by omega, isPartL]
  rcases hc with ⟨e, e2⟩ | ⟨e, e2⟩
  · rw [if_pos e, show u2.toNat = p + 1 by omega]
  · rw [if_neg e, show u2.toNat = p by omega, cut_d hx (by omega)]
def Iq2 (r : Int) (c : Nat) (m : Int) (jo cs cn : Nat → Int32) : Prop := (r = 0 → isPartL (cutL cs cn c) (joL jo m) = false) ∧ (¬ r = 0 → isPartL (cutL cs cn c) (joL jo m) = true)
theorem Ip_t {r : Int} (h : Ip u k c m jo cs cn) (hu : (cs c).toInt ≤ u) (hr : ¬ r = 0) : Iq2 r c m jo cs cn := by
  unfold Ip at h
  rw [cut_n hu, ip_0] at h
  exact ⟨fun q => absurd q hr, fun _ => h.symm⟩
theorem Ip_f {r : Int} (h : Ip u k c m jo cs cn) (hu : u < (cs c).toInt) (hu0 : 0 ≤ u) (hk : m ≤ k) (hr : r = 0) : Iq2 r c m jo cs cn := by
  unfold Ip at h
  rw [show (joL jo m).drop k.toNat = [] from tab_n (by omega), show u.toNat = u.toNat from rfl, cut_d (v := cn (5 * c + u.toNat)) rfl (by omega)] at h
  exact ⟨fun _ => h.symm, fun q => absurd hr q⟩
end IP
def bitM (x : Int32) : Int32 := (1 : Int32) <<< ((x - x / 32 * 32) &&& 31)
def mkF (f : Nat → Int32) (p : Nat) : Nat → Int32
  | 0 => 0
  | k + 1 => mkF f p k ||| bitM (f (p + k))
theorem or_bv (a m : BitVec 32) (h : a ||| m = m) : a &&& (m ^^^ (-1 : BitVec 32)) = 0 := by
  apply BitVec.eq_of_getLsbD_eq
  intro i hi
  have h2 := congrArg (fun z => BitVec.getLsbD z i) h
  simp only [BitVec.getLsbD_or] at h2
  rw [BitVec.getLsbD_and, BitVec.getLsbD_xor, show (-1 : BitVec 32) = BitVec.allOnes 32 from by decide, BitVec.getLsbD_allOnes]
  revert h2
  cases BitVec.getLsbD a i <;> cases BitVec.getLsbD m i <;> simp [hi]
theorem or_i {a m : Int32} (h : a ||| m = m) : a &&& (m ^^^ (-1)) = 0 := by
  apply Int32.toBitVec_inj.mp
  rw [Int32.toBitVec_and, Int32.toBitVec_xor]
  exact or_bv _ _ (by rw [← Int32.toBitVec_or, h])
theorem or_a (a b c : Int32) : (a ||| b) ||| c = a ||| (b ||| c) := by
  apply Int32.toBitVec_inj.mp
  rw [Int32.toBitVec_or, Int32.toBitVec_or, Int32.toBitVec_or, Int32.toBitVec_or, BitVec.or_assoc]
theorem or_c (a b : Int32) : a ||| b = b ||| a := by
  apply Int32.toBitVec_inj.mp
  rw [Int32.toBitVec_or, Int32.toBitVec_or, BitVec.or_comm]
theorem or_s (a : Int32) : a ||| a = a := by
  apply Int32.toBitVec_inj.mp
  rw [Int32.toBitVec_or, BitVec.or_self]
theorem or_0 (a : Int32) : (0 : Int32) ||| a = a := by
  apply Int32.toBitVec_inj.mp
  rw [Int32.toBitVec_or]
  exact BitVec.zero_or
theorem mk_in {f : Nat → Int32} {p m k : Nat} (h : k < m) : bitM (f (p + k)) ||| mkF f p m = mkF f p m := by
  induction m with
  | zero => omega
  | succ m ih =>
    rw [mkF]
    by_cases e : k = m
    · subst e
      rw [or_c (mkF f p k), ← or_a, or_s]
    · rw [← or_a, ih (by omega)]
theorem mk_sub {f g : Nat → Int32} {p q m : Nat} {M : Nat} (h : ∀ k, k < m → ∃ l, l < M ∧ f (p + k) = g (q + l)) : mkF f p m ||| mkF g q M = mkF g q M := by
  induction m with
  | zero => rw [mkF, or_0]
  | succ m ih =>
    rw [mkF, or_a]
    obtain ⟨l, h1, h2⟩ := h m (by omega)
    rw [h2, mk_in h1]
    exact ih (fun k hk => h k (by omega))
theorem mk_c {f g : Nat → Int32} {p q m : Nat} (h : ∀ k, k < m → f (p + k) = g (q + k)) : mkF f p m = mkF g q m := by
  induction m with
  | zero => rfl
  | succ m ih => rw [mkF, mkF, ih (fun k hk => h k (by omega)), h m (by omega)]
theorem ip_mem : ∀ {C J : List Int}, isPartL C J = true → ∀ x ∈ C, x ∈ J
  | [], _, _, x, hx => by cases hx
  | c :: cs, [], h, x, hx => by rw [isPartL] at h; cases h
  | c :: cs, j :: js, h, x, hx => by
    rw [isPartL] at h
    by_cases e : j = c
    · rw [if_pos e] at h
      rcases List.mem_cons.mp hx with q | q
      · rw [q, ← e]; exact List.mem_cons_self
      · exact List.mem_cons_of_mem _ (ip_mem h x q)
    · rw [if_neg e] at h
      exact List.mem_cons_of_mem _ (ip_mem h x hx)
theorem tab_mem {f : Nat → Int} {n : Nat} {x : Int} : x ∈ tabL f n ↔ ∃ k, k < n ∧ f k = x := by
  unfold tabL
  rw [List.mem_map]
  exact ⟨fun ⟨k, h1, h2⟩ => ⟨k, List.mem_range.mp h1, h2⟩, fun ⟨k, h1, h2⟩ => ⟨k, List.mem_range.mpr h1, h2⟩⟩
theorem ip_marks {cs cn jo : Nat → Int32} {c : Nat} {m : Int} {a v : Int32} (ha : a = mkF cn (5 * c) (cs c).toInt.toNat) (hv : v = mkF jo 0 m.toNat) (h : ¬ a &&& (v ^^^ (-1)) = 0) : isPartL (cutL cs cn c) (joL jo m) = false := by
  cases e : isPartL (cutL cs cn c) (joL jo m) with
  | false => rfl
  | true =>
    exfalso
    apply h
    apply or_i
    rw [ha, hv]
    apply mk_sub
    intro k hk
    have h2 := ip_mem e ((cn (5 * c + k)).toInt) (tab_mem.mpr ⟨k, hk, rfl⟩)
    obtain ⟨l, h3, h4⟩ := tab_mem.mp h2
    exact ⟨l, h3, by rw [Nat.zero_add]; exact (i_eq h4).symm⟩
abbrev Mv (v : Int32) (k : Int) (jo : Nat → Int32) : Prop := v = mkF jo 0 k.toNat
theorem Mv_0 (jo : Nat → Int32) : Mv 0 0 jo := rfl
theorem Mv_s {v x4 x5 x6 x7 : Int32} {k k2 : Int} {q : Nat} {jo : Nat → Int32} (h : Mv v k jo) (h7 : x7 = v ||| x6) (h6 : x6 = (1 : Int32) <<< (x5 &&& 31)) (h5 : x5 = x4 - x4 / 32 * 32) (h4 : x4 = jo q) (hq : (q : Int) = k) (hk : k2 = k + 1) : Mv x7 k2 jo := by
  show x7 = mkF jo 0 k2.toNat
  rw [show k2.toNat = k.toNat + 1 by omega, mkF, ← h, Nat.zero_add, show k.toNat = q by omega, h7, h6, h5, h4]; rfl
theorem Mv_w {v : Int32} {k k2 : Int} {jo : Nat → Int32} (h : Mv v k jo) (e : k2 = k) : Mv v k2 jo := by subst e; exact h
def addC (acc : List (List Int)) (J : List Int) : Option (List (List Int)) := if acc.any (fun C => isPartL C J) then some acc else if acc.length = 300 then none else some (acc ++ [J])
abbrev Mr (n : Int) (cc cs cn cm : Nat → Int32) : Prop := ∀ c : Nat, 301 * n ≤ (c : Int) → (c : Int) < 301 * n + (cc n.toNat).toInt → cm c = mkF cn (5 * c) (cs c).toInt.toNat
theorem Mr_0 {n : Int} {cc cs cn cm : Nat → Int32} {i : Nat} {v : Int32} (hi : i = n.toNat) (hv : v.toInt = 0) : Mr n (upd cc i v) cs cn cm := fun c h1 h2 => by
  rw [← hi, up_s] at h2; exfalso; omega
abbrev Kq (n : Int) (v : Int32) (cc cm cm2 : Nat → Int32) : Prop := ∀ c : Nat, ((c : Int) = 301 * n + (cc n.toNat).toInt → cm2 c = v) ∧ (¬ (c : Int) = 301 * n + (cc n.toNat).toInt → cm2 c = cm c)
theorem Kq_u {n : Int} {v : Int32} {cc cm : Nat → Int32} {i a : Nat} (ha : a = n.toNat) (hi : (i : Int) = 301 * n + (cc a).toInt) : Kq n v cc cm (upd cm i v) := fun c => by
  subst ha
  refine ⟨fun h => ?_, fun h => up_o (by omega)⟩
  rw [show c = i by omega, up_s]
theorem Mr_k {n m : Int} {cc cs cn cm jo cc2 cs2 cn2 cm2 : Nat → Int32} {v : Int32} (h : Mr n cc cs cn cm) (hk : Kd n m m cc cs cn jo cc2 cs2 cn2) (hm : Kq n v cc cm cm2) (hv : v = mkF jo 0 m.toNat) (hb : ∀ c, (cs c).toInt ≤ 5) : Mr n cc2 cs2 cn2 cm2 := fun c q1 q2 => by
  obtain ⟨h1, h2, h3, h4, h5, h6⟩ := hk
  by_cases e : (c : Int) = 301 * n + (cc n.toNat).toInt
  · rw [(hm c).1 e, hv, h3 c e]
    exact mk_c (fun k hk => by rw [Nat.zero_add]; exact (h5 (5 * c + k) k (by omega) (by omega)).symm)
  · rw [(hm c).2 e, h4 c e, h c q1 (by omega)]
    have := hb c
    exact mk_c (fun k hk => (h6 (5 * c + k) (Or.inl (by omega))).symm)
theorem cut_c {cs cn cs2 cn2 : Nat → Int32} {c : Nat} (h1 : cs2 c = cs c) (hb : (cs c).toInt ≤ 5) (h2 : ∀ j : Nat, 5 * c ≤ j → j < 5 * c + 5 → cn2 j = cn j) : cutL cs2 cn2 c = cutL cs cn c := by
  unfold cutL
  rw [h1]
  exact tab_c (fun k hk => by rw [h2 (5 * c + k) (by omega) (by omega)])
theorem row_k {n m : Int} {cc cs cn jo cc2 cs2 cn2 : Nat → Int32} (hk : Kd n m m cc cs cn jo cc2 cs2 cn2) (hb : ∀ c, (cs c).toInt ≤ 5) (h0 : 0 ≤ n) (hc : 0 ≤ (cc n.toNat).toInt) : rowL cc2 cs2 cn2 n.toNat = rowL cc cs cn n.toNat ++ [joL jo m] := by
  obtain ⟨h1, h2, h3, h4, h5, h6⟩ := hk
  unfold rowL
  rw [show (cc2 n.toNat).toInt.toNat = (cc n.toNat).toInt.toNat + 1 by omega, List.range_succ, List.map_append]
  congr 1
  · refine List.map_congr_left (fun i hi => ?_)
    have hi2 := List.mem_range.mp hi
    exact cut_c (h4 _ (by omega)) (hb _) (fun j q1 q2 => h6 j (Or.inl (by omega)))
  · show [cutL cs2 cn2 (301 * n.toNat + (cc n.toNat).toInt.toNat)] = [joL jo m]
    congr 1
    unfold cutL joL
    rw [h3 _ (by omega)]
    exact tab_c (fun k hk => by rw [h5 _ k (by omega) (by omega)])
abbrev Np (v n : Int) (m : Int) (jo cs cn : Nat → Int32) : Prop := ∀ c : Nat, 301 * n ≤ (c : Int) → (c : Int) < v → isPartL (cutL cs cn c) (joL jo m) = false
theorem Np_0 {v n m : Int} {jo cs cn : Nat → Int32} (h : v = 301 * n) : Np v n m jo cs cn := fun c h1 h2 => by exfalso; omega
theorem Np_s {v v2 n m r : Int} {c : Nat} {jo cs cn : Nat → Int32} (h : Np v n m jo cs cn) (hi : Iq2 r c m jo cs cn) (hr : r = 0) (hc : (c : Int) = v) (hv : v2 = v + 1) : Np v2 n m jo cs cn := fun c' h1 h2 => by
  by_cases e : c' = c
  · rw [e]; exact hi.1 hr
  · exact h c' h1 (by omega)
theorem row_any {n : Int} {m : Int} {cc jo cs cn : Nat → Int32} {v : Int} (h : Np v n m jo cs cn) (h0 : 0 ≤ n) (hv : 301 * n + (cc n.toNat).toInt ≤ v) : (rowL cc cs cn n.toNat).any (fun C => isPartL C (joL jo m)) = false := by
  rw [List.any_eq_false]
  intro C hC
  unfold rowL at hC
  obtain ⟨i, h1, h2⟩ := List.mem_map.mp hC
  have h3 := List.mem_range.mp h1
  rw [← h2, h (301 * n.toNat + i) (by omega) (by omega)]; decide
theorem row_len (cc cs cn : Nat → Int32) (n : Nat) : (rowL cc cs cn n).length = (cc n).toInt.toNat := by unfold rowL; rw [List.length_map, List.length_range]
def Ad (z n m : Int) (cc cs cn jo cc2 cs2 cn2 : Nat → Int32) : Prop := (z = 0 → addC (rowL cc cs cn n.toNat) (joL jo m) = some (rowL cc2 cs2 cn2 n.toNat)) ∧ (¬ z = 0 → addC (rowL cc cs cn n.toNat) (joL jo m) = none)
theorem Ad_k {z n m v : Int} {cc cs cn jo cc2 cs2 cn2 : Nat → Int32} (h : Np v n m jo cs cn) (hk : Kd n m m cc cs cn jo cc2 cs2 cn2) (hv : 301 * n + (cc n.toNat).toInt ≤ v) (hl : (cc n.toNat).toInt ≤ 299) (hb : ∀ c, (cs c).toInt ≤ 5) (h0 : 0 ≤ n) (hc : 0 ≤ (cc n.toNat).toInt) (hz : z = 0) : Ad z n m cc cs cn jo cc2 cs2 cn2 := by
  refine ⟨fun _ => ?_, fun q => absurd hz q⟩
  unfold addC
  rw [row_any h h0 hv, row_len, row_k hk hb h0 hc]
  rw [if_neg (by decide), if_neg (by omega)]
theorem Ad_n {z n m v : Int} {cc cs cn jo cc2 cs2 cn2 : Nat → Int32} (h : Np v n m jo cs cn) (hv : 301 * n + (cc n.toNat).toInt ≤ v) (hl : (cc n.toNat).toInt = 300) (h0 : 0 ≤ n) (hz : ¬ z = 0) : Ad z n m cc cs cn jo cc2 cs2 cn2 := by
  refine ⟨fun q => absurd q hz, fun _ => ?_⟩
  unfold addC
  rw [row_any h h0 hv, row_len]
  rw [if_neg (by decide), if_pos (by omega)]
theorem Ad_p {z n m r : Int} {c : Nat} {cc cs cn jo : Nat → Int32} (hi : Iq2 r c m jo cs cn) (hr : ¬ r = 0) (h1 : 301 * n ≤ (c : Int)) (h2 : (c : Int) < 301 * n + (cc n.toNat).toInt) (h0 : 0 ≤ n) (hz : z = 0) : Ad z n m cc cs cn jo cc cs cn := by
  refine ⟨fun _ => ?_, fun q => absurd hz q⟩
  unfold addC
  rw [if_pos]
  rw [List.any_eq_true]
  refine ⟨cutL cs cn c, ?_, hi.2 hr⟩
  unfold rowL
  exact List.mem_map.mpr ⟨c - 301 * n.toNat, List.mem_range.mpr (by omega), by rw [show 301 * n.toNat + (c - 301 * n.toNat) = c by omega]⟩
def stepC (X : List Int) (s : Nat) (acc : List (List Int)) (Y : List Int) : Option (List (List Int)) := if (mergeL X Y).length = s then addC acc (mergeL X Y) else some acc
def loopY (X : List Int) (s : Nat) (D acc : List (List Int)) : Option (List (List Int)) := D.foldlM (stepC X s) acc
def loopX (s : Nat) (D A acc : List (List Int)) : Option (List (List Int)) := A.foldlM (fun acc X => loopY X s D acc) acc
def loopS (A D : List (List Int)) (l : List Nat) (acc : List (List Int)) : Option (List (List Int)) := l.foldlM (fun acc s => loopX s D A acc) acc
def gateL (A D : List (List Int)) (K : Nat) : Option (List (List Int)) := loopS A D (List.range (K + 1)) []
def Q37 (z : Int) (acc A D : List (List Int)) (s K : Nat) : Prop := (z = 0 → loopS A D ((List.range (K + 1)).drop s) acc = gateL A D K) ∧ (¬ z = 0 → gateL A D K = none)
def Q51 (z : Int) (acc A D : List (List Int)) (i s K : Nat) : Prop := (z = 0 → (loopX s D (A.drop i) acc).bind (fun a => loopS A D ((List.range (K + 1)).drop (s + 1)) a) = gateL A D K) ∧ (¬ z = 0 → gateL A D K = none)
def Q85 (z : Int) (acc : List (List Int)) (X : List Int) (A D : List (List Int)) (i j s K : Nat) : Prop := (z = 0 → ((loopY X s (D.drop j) acc).bind (fun a => loopX s D (A.drop (i + 1)) a)).bind (fun a => loopS A D ((List.range (K + 1)).drop (s + 1)) a) = gateL A D K) ∧ (¬ z = 0 → gateL A D K = none)
theorem Q_0 {z : Int} {A D : List (List Int)} {K : Nat} (hz : z = 0) : Q37 z [] A D 0 K := ⟨fun _ => rfl, fun q => absurd hz q⟩
theorem fm_cons {α β : Type} {f : β → α → Option β} {x : α} {l : List α} {b : β} : (x :: l).foldlM f b = (f b x).bind (fun c => l.foldlM f c) := rfl
theorem fm_nil {α β : Type} {f : β → α → Option β} {b : β} : ([] : List α).foldlM f b = some b := rfl
section QQ
variable {z z2 : Int} {acc acc2 A D : List (List Int)} {X Y : List Int} {i j s K i2 j2 s2 : Nat}
theorem Q_a (h : Q37 z acc A D s K) (hs : s ≤ K) : Q51 z acc A D 0 s K := by
  refine ⟨fun hz => ?_, h.2⟩
  have h1 := h.1 hz
  rw [dr_cons (List.getElem?_range (show s < K + 1 by omega))] at h1
  exact h1
theorem Q_b (h : Q51 z acc A D i s K) (hi : A[i]? = some X) : Q85 z acc X A D i 0 s K := by
  refine ⟨fun hz => ?_, h.2⟩
  have h1 := h.1 hz
  rw [dr_cons hi] at h1
  exact h1
theorem Q_c (h : Q85 z acc X A D i j s K) (hj : D[j]? = some Y) (hz : z = 0) (hs : stepC X s acc Y = some acc2) (hj2 : j2 = j + 1) (hz2 : z2 = 0) : Q85 z2 acc2 X A D i j2 s K := by
  refine ⟨fun _ => ?_, fun q => absurd hz2 q⟩
  have h1 := h.1 hz
  unfold loopY at h1
  rw [dr_cons hj, fm_cons, hs] at h1
  subst hj2
  exact h1
theorem Q_n (h : Q85 z acc X A D i j s K) (hj : D[j]? = some Y) (hz : z = 0) (hs : stepC X s acc Y = none) (hz2 : ¬ z2 = 0) : Q85 z2 acc2 X A D i j2 s K := by
  refine ⟨fun q => absurd q hz2, fun _ => ?_⟩
  have h1 := h.1 hz
  unfold loopY at h1
  rw [dr_cons hj, fm_cons, hs] at h1
  exact h1.symm
theorem Q_d (h : Q85 z acc X A D i j s K) (hx : D.length ≤ j ∨ ¬ z = 0) (hi : i2 = i + 1) : Q51 z acc A D i2 s K := by
  refine ⟨fun hz => ?_, h.2⟩
  have h1 := h.1 hz
  have hl : D.length ≤ j := hx.resolve_right (fun q => q hz)
  unfold loopY at h1
  rw [dr_nil hl, fm_nil] at h1
  subst hi
  exact h1
theorem Q_e (h : Q51 z acc A D i s K) (hx : A.length ≤ i ∨ ¬ z = 0) (hs : s2 = s + 1) : Q37 z acc A D s2 K := by
  refine ⟨fun hz => ?_, h.2⟩
  have h1 := h.1 hz
  have hl : A.length ≤ i := hx.resolve_right (fun q => q hz)
  unfold loopX at h1
  rw [dr_nil hl, fm_nil] at h1
  subst hs
  exact h1
def Gp2 (z : Int) (acc A D : List (List Int)) (K : Nat) : Prop := (z = 0 → gateL A D K = some acc) ∧ (¬ z = 0 → gateL A D K = none)
theorem Q_f (h : Q37 z acc A D s K) (hs : K < s) : Gp2 z acc A D K := by
  refine ⟨fun hz => ?_, h.2⟩
  have h1 := h.1 hz
  rw [dr_nil (by rw [List.length_range]; omega)] at h1
  exact h1.symm
end QQ
theorem all_len (cc cs cn : Nat → Int32) (n : Nat) : (allL cc cs cn n).length = (cc n).toInt.toNat + 1 := by unfold allL; rw [List.length_append, row_len]; rfl
theorem all_g {cc cs cn : Nat → Int32} {n i : Nat} (h : i ≤ (cc n).toInt.toNat) : (allL cc cs cn n)[i]? = some (cutL cs cn (301 * n + i)) := by
  unfold allL
  by_cases e : i < (cc n).toInt.toNat
  · rw [List.getElem?_append_left (by rw [row_len]; exact e)]
    unfold rowL
    rw [List.getElem?_map, List.getElem?_range e]; rfl
  · rw [List.getElem?_append_right (by rw [row_len]; omega), row_len, show i - (cc n).toInt.toNat = 0 by omega, show i = (cc n).toInt.toNat by omega]; rfl
theorem mg_len : ∀ {X Y : List Int}, X.length ≤ (mergeL X Y).length ∧ Y.length ≤ (mergeL X Y).length ∧ (mergeL X Y).length ≤ X.length + Y.length
  | [], Y => by rw [mg_0]; simp
  | x :: xs, [] => by rw [mg_n]; simp
  | x :: xs, y :: ys => by
    rcases (show x < y ∨ y < x ∨ x = y by omega) with q | q | q
    · rw [mg_l q]
      have := @mg_len xs (y :: ys)
      simp only [List.length_cons] at this ⊢
      omega
    · rw [mg_r q]
      have := @mg_len (x :: xs) ys
      simp only [List.length_cons] at this ⊢
      omega
    · rw [mg_e q]
      have := @mg_len xs ys
      simp only [List.length_cons] at this ⊢
      omega
termination_by X Y => X.length + Y.length
theorem cut_len (cs cn : Nat → Int32) (c : Nat) : (cutL cs cn c).length = (cs c).toInt.toNat := by unfold cutL; rw [tab_len]
theorem jo_len (jo : Nat → Int32) (m : Int) : (joL jo m).length = m.toNat := by unfold joL; rw [tab_len]
theorem st_ne {X Y : List Int} {s : Nat} {acc : List (List Int)} (h : ¬ (mergeL X Y).length = s) : stepC X s acc Y = some acc := by unfold stepC; rw [if_neg h]
theorem st_eq {X Y : List Int} {s : Nat} {acc : List (List Int)} (h : (mergeL X Y).length = s) : stepC X s acc Y = addC acc (mergeL X Y) := by unfold stepC; rw [if_pos h]
theorem cut_e {cs cn cs2 cn2 : Nat → Int32} {c : Nat} {N : Int} (h1 : Lc N cs cs2) (h2 : Ce (1505 * N) cn cn2) (hb : (cs c).toInt ≤ 5) (hc : (c : Int) < 301 * N) : cutL cs2 cn2 c = cutL cs cn c := cut_c (h1 c hc) hb (fun j q1 q2 => h2 j (by omega))
theorem row_0 {cc cs cn : Nat → Int32} {i n : Nat} {v : Int32} (hi : n = i) (hv : v.toInt = 0) : rowL (upd cc i v) cs cn n = [] := by
  unfold rowL
  rw [hi, up_s, hv]; rfl
theorem all_at {cc cs cn : Nat → Int32} {a v : Int32} (h0 : 0 ≤ a.toInt) (h1 : 301 * a.toInt ≤ v.toInt) (h2 : v.toInt ≤ 301 * a.toInt + (cc a.toNatClampNeg).toInt) : (allL cc cs cn a.toNatClampNeg)[(v.toInt - 301 * a.toInt).toNat]? = some (cutL cs cn v.toNatClampNeg) := by
  have ta := tn_n a
  have tv := tn_n v
  rw [all_g (by omega), show 301 * a.toNatClampNeg + (v.toInt - 301 * a.toInt).toNat = v.toNatClampNeg by omega]
theorem st_pre {cs cn : Nat → Int32} {i j s : Nat} {acc : List (List Int)} (h : (s : Int) < (cs i).toInt ∨ (s : Int) < (cs j).toInt ∨ (cs i).toInt + (cs j).toInt < (s : Int)) (h0 : 0 ≤ (cs i).toInt) (h1 : 0 ≤ (cs j).toInt) : stepC (cutL cs cn i) s acc (cutL cs cn j) = some acc := by
  apply st_ne
  have := @mg_len (cutL cs cn i) (cutL cs cn j)
  rw [cut_len, cut_len] at this
  omega
theorem st_join {jo cs cn ds dn : Nat → Int32} {i j s : Nat} {n : Int} {acc : List (List Int)} (hm : Mp2 n i j jo cs cn) (hi : cutL cs cn i = cutL ds dn i) (hj : cutL cs cn j = cutL ds dn j) (hn : ¬ n.toNat = s) : stepC (cutL ds dn i) s acc (cutL ds dn j) = some acc := by
  apply st_ne
  rw [← hi, ← hj, ← hm, jo_len]
  exact hn
theorem st_ad {jo jo2 cs cn ds dn cc1 cs1 cn1 cc2 cs2 cn2 : Nat → Int32} {i j s : Nat} {n z m p : Int} {acc : List (List Int)} (hm : Mp2 n i j jo cs cn) (hi : cutL cs cn i = cutL ds dn i) (hj : cutL cs cn j = cutL ds dn j) (hn : n.toNat = s) (ha : Ad z p m cc1 cs1 cn1 jo2 cc2 cs2 cn2) (hjo : jo2 = jo) (hmn : m = n) (hr : rowL cc1 cs1 cn1 p.toNat = acc) : (z = 0 → stepC (cutL ds dn i) s acc (cutL ds dn j) = some (rowL cc2 cs2 cn2 p.toNat)) ∧ (¬ z = 0 → stepC (cutL ds dn i) s acc (cutL ds dn j) = none) := by
  have e : stepC (cutL ds dn i) s acc (cutL ds dn j) = addC acc (joL jo n) := by
    rw [st_eq (by rw [← hi, ← hj, ← hm, jo_len]; exact hn), ← hi, ← hj, ← hm]
  subst hmn hr hjo
  rw [e]
  exact ha
theorem Q_t {z z2 : Int} {acc acc2 A D : List (List Int)} {X Y : List Int} {i j s K j2 : Nat} (h : Q85 z acc X A D i j s K) (hj : D[j]? = some Y) (hz : z = 0) (ha : (z2 = 0 → stepC X s acc Y = some acc2) ∧ (¬ z2 = 0 → stepC X s acc Y = none)) (hj2 : j2 = j + 1) : Q85 z2 acc2 X A D i j2 s K := by
  by_cases e : z2 = 0
  · exact Q_c h hj hz (ha.1 e) hj2 e
  · exact Q_n h hj hz (ha.2 e) e
theorem Q_a' {z : Int} {acc A D : List (List Int)} {s K : Int} {i : Nat} (h : Q37 z acc A D s.toNat K.toNat) (hs : s ≤ K) (h0 : 0 ≤ s) (hi : i = 0) : Q51 z acc A D i s.toNat K.toNat := by subst hi; exact Q_a h (by omega)
theorem Q_b' {z : Int} {acc A D : List (List Int)} {X : List Int} {i j s K : Nat} (h : Q51 z acc A D i s K) (hi : A[i]? = some X) (hj : j = 0) : Q85 z acc X A D i j s K := by subst hj; exact Q_b h hi
theorem row_a {n : Int} {v : Int32} {cs2 cn2 cc2 : Nat → Int32} {o : cf_O} (ha : Al n (o.2.1 57) (o.2.1 59) cs2) (hn : An n v (o.2.1 57) (o.2.1 58) cn2) (k : okO I_M o) (hc : cc2 = o.2.1 57) (h0 : 0 ≤ n) : rowL cc2 cs2 cn2 n.toNat = rowL (o.2.1 57) (o.2.1 59) (o.2.1 58) n.toNat := by
  subst hc
  unfold rowL
  refine List.map_congr_left (fun i hi => ?_)
  have hi2 := List.mem_range.mp hi
  exact cut_c ((ha _).2 (by omega)) (k.2 59 _).2 (fun j q1 q2 => (hn j).2 (by omega))

abbrev Nk5 (P : Nat → Prop) (c : Nat) (m : Int) (cn : Nat → Int32) : Prop := ∀ k i : Nat, (k : Int) < m → (i : Int) = (cn (5 * c + k)).toInt → P i
abbrev Dl (u k : Int) (c : Nat) (cs cn dp : Nat → Int32) : Prop := 0 ≤ u ∧ Nk5 (fun i => (dp i).toInt ≤ u) c k cn ∧ (∀ m : Int, 0 ≤ m → Nk5 (fun i => (dp i).toInt ≤ m) c (cs c).toInt cn → u ≤ m)
theorem Dl_0 (c : Nat) (cs cn dp : Nat → Int32) : Dl 0 0 c cs cn dp := ⟨Int.le_refl _, fun k i h => by exfalso; omega, fun m h _ => h⟩
theorem Dl_s {u u2 k k2 : Int} {c p q : Nat} {x y : Int32} {cs cn dp : Nat → Int32} (h : Dl u k c cs cn dp) (hx : x.toInt = (cn p).toInt) (hy : y.toInt = (dp q).toInt) (hp : (p : Int) = 5 * (c : Int) + k) (hq : (q : Int) = x.toInt) (hk0 : 0 ≤ k) (hk : k < (cs c).toInt) (hk2 : k2 = k + 1) (hu : (y.toInt ≤ u ∧ u2 = u) ∨ (u < y.toInt ∧ u2 = y.toInt)) : Dl u2 k2 c cs cn dp := by
  obtain ⟨h1, h2, h3⟩ := h
  refine ⟨by omega, fun k' i hk' hi => ?_, fun m hm hA => ?_⟩
  · show (dp i).toInt ≤ u2
    by_cases e : (k' : Int) = k
    · have e2 : 5 * c + k' = p := by omega
      rw [e2] at hi
      have e3 : i = q := by omega
      rw [e3]; omega
    · have := h2 k' i (by omega) hi
      have this : (dp i).toInt ≤ u := this
      omega
  · rcases hu with ⟨a, b⟩ | ⟨a, b⟩
    · rw [b]; exact h3 m hm hA
    · rw [b, hy]
      exact hA k.toNat q (by omega) (by rw [show 5 * c + k.toNat = p by omega]; omega)
abbrev Do (r : Int) (c : Nat) (cs cn dp : Nat → Int32) : Prop := 1 ≤ r ∧ Nk5 (fun i => (dp i).toInt + 1 ≤ r) c (cs c).toInt cn ∧ (∀ m : Int, 1 ≤ m → Nk5 (fun i => (dp i).toInt + 1 ≤ m) c (cs c).toInt cn → r ≤ m)
theorem Dl_e {u k r : Int} {c : Nat} {cs cn dp : Nat → Int32} (h : Dl u k c cs cn dp) (hk : (cs c).toInt ≤ k) (hr : r = u + 1) : Do r c cs cn dp := by
  obtain ⟨h1, h2, h3⟩ := h
  refine ⟨by omega, fun k' i hk' hi => ?_, fun m hm hA => ?_⟩
  · have := h2 k' i (by omega) hi
    have this : (dp i).toInt ≤ u := this
    show (dp i).toInt + 1 ≤ r
    omega
  · have := h3 (m - 1) (by omega) (fun k' i hk' hi => by
      have := hA k' i hk' hi
      have this : (dp i).toInt + 1 ≤ m := this
      show (dp i).toInt ≤ m - 1
      omega)
    omega
abbrev Sn (n : Int) (cc cs cn : Nat → Int32) : Prop := ∀ c : Nat, 301 * n ≤ (c : Int) → (c : Int) < 301 * n + (cc n.toNat).toInt → Nk5 (fun i => (i : Int) < n) c (cs c).toInt cn
theorem Sn_x {n a d b G : Int} {on tw cc cs cn : Nat → Int32} (h : Cx n a d b G on tw cc cs cn) (hg : Gx b G on tw) (ha : a < n) (hd : d < n) : Sn n cc cs cn := fun c h1 h2 k i hk hi =>
  h c h1 h2 (fun i => (i : Int) < n) (fun g j i q1 q2 q3 q4 => by
    obtain ⟨g1, g2, g3⟩ := hg g q1
    have q3 : (j : Int) < n := q3
    show (i : Int) < n
    omega) (fun i q => by show (i : Int) < n; omega) k i hk hi
abbrev Dn (N : Int) (dp : Nat → Int32) : Prop := ∀ i : Nat, (i : Int) < N → (dp i).toInt ≤ (i : Int)
theorem Dn_0 {N : Int} {dp : Nat → Int32} (h : N ≤ 0) : Dn N dp := fun i hi => by exfalso; omega
theorem Dn_n {N N2 : Int} {dp : Nat → Int32} (h : Dn N dp) (e : N2 = N) : Dn N2 dp := by subst e; exact h
theorem Dn_s {N N2 : Int} {dp : Nat → Int32} {i : Nat} {v : Int32} (h : Dn N dp) (hN : N2 = N + 1) (hi : (i : Int) = N) (hv : v.toInt ≤ N) : Dn N2 (upd dp i v) := fun j hj => by
  by_cases e : j = i
  · rw [e, up_s]; omega
  · rw [up_o e]; exact h j (by omega)
theorem Do_b {r : Int} {c : Nat} {n : Int} {cs cc cn dp : Nat → Int32} (h : Do r c cs cn dp) (hs : Sn n cc cs cn) (hd : Dn n dp) (h1 : 301 * n ≤ (c : Int)) (h2 : (c : Int) < 301 * n + (cc n.toNat).toInt) (hn : 1 ≤ n) : r ≤ n := h.2.2 n hn (fun k i hk hi => by
  have q := hs c h1 h2 k i hk hi
  have q : (i : Int) < n := q
  have q2 := hd i q
  show (dp i).toInt + 1 ≤ n
  omega)
abbrev Fdd (n : Int) (cc cs cn dp dp2 : Nat → Int32) : Prop := (∃ c : Nat, 301 * n ≤ (c : Int) ∧ (c : Int) < 301 * n + (cc n.toNat).toInt ∧ Nk5 (fun i => (i : Int) < n ∧ (dp i).toInt + 1 ≤ (dp2 n.toNat).toInt) c (cs c).toInt cn) ∧ 1 ≤ (dp2 n.toNat).toInt ∧ (dp2 n.toNat).toInt ≤ n ∧ ∀ i : Nat, ¬ i = n.toNat → dp2 i = dp i
theorem Fdd_i {n r : Int} {c a : Nat} {v : Int32} {cs cc cn dp : Nat → Int32} (h : Do r c cs cn dp) (hs : Sn n cc cs cn) (ha : a = n.toNat) (hv : v.toInt = r) (h1 : 301 * n ≤ (c : Int)) (h2 : (c : Int) < 301 * n + (cc a).toInt) (hb : r ≤ n) : Fdd n cc cs cn dp (upd dp a v) := by
  subst ha
  refine ⟨⟨c, h1, h2, fun k i hk hi => ⟨hs c h1 h2 k i hk hi, ?_⟩⟩, by rw [up_s, hv]; exact h.1, by rw [up_s, hv]; exact hb, fun i hi => up_o hi⟩
  have := h.2.1 k i hk hi
  have this : (dp i).toInt + 1 ≤ r := this
  rw [up_s, hv]; exact this
abbrev Dp (N b : Int) (cc cs cn dp : Nat → Int32) : Prop := ∀ g n : Nat, (g : Int) < N → (n : Int) = b + (g : Int) → 1 ≤ (dp n).toInt ∧ ∃ c : Nat, 301 * (n : Int) ≤ (c : Int) ∧ (c : Int) < 301 * (n : Int) + (cc n).toInt ∧ Nk5 (fun i => i < n ∧ (dp i).toInt + 1 ≤ (dp n).toInt) c (cs c).toInt cn
theorem Dp_0 {N b : Int} {cc cs cn dp : Nat → Int32} (h : N ≤ 0) : Dp N b cc cs cn dp := fun g n hg => by exfalso; omega
theorem Dp_s {N N2 b n : Int} {cc cs cn dp cc2 cs2 cn2 dp2 : Nat → Int32} (h : Dp N b cc cs cn dp) (h57 : Ce n cc cc2) (h59 : Lc n cs cs2) (h58 : Ce (1505 * n) cn cn2) (hf : Fdd n cc2 cs2 cn2 dp dp2) (hn : n = b + N) (hN : N2 = N + 1) (hb : ∀ c, (cs c).toInt ≤ 5) (hcc : ∀ c, (cc c).toInt ≤ 300) (hb0 : 0 ≤ b) (hN0 : 0 ≤ N) : Dp N2 b cc2 cs2 cn2 dp2 := fun g m hg hm => by
  obtain ⟨⟨c, c1, c2, c3⟩, f1, f2, f3⟩ := hf
  by_cases e : (g : Int) = N
  · have em : n.toNat = m := by omega
    rw [em] at c2 f1
    refine ⟨f1, c, by omega, by omega, fun k i hk hi => ?_⟩
    have q := c3 k i hk hi
    obtain ⟨q1, q2⟩ : (i : Int) < n ∧ (dp i).toInt + 1 ≤ (dp2 n.toNat).toInt := q
    rw [em] at q2
    exact ⟨by omega, by rw [f3 i (by omega)]; exact q2⟩
  · obtain ⟨d1, c', d2, d3, d4⟩ := h g m (by omega) hm
    have l := hcc m
    rw [f3 m (by omega)]
    refine ⟨d1, c', d2, by rw [h57 m (by omega)]; exact d3, fun k i hk hi => ?_⟩
    rw [h59 c' (by omega)] at hk
    have b5 := hb c'
    rw [h58 (5 * c' + k) (by omega)] at hi
    obtain ⟨q1, q2⟩ : i < m ∧ (dp i).toInt + 1 ≤ (dp m).toInt := d4 k i hk hi
    exact ⟨q1, by rw [f3 i (by omega)]; exact q2⟩
def Dz (z b g : Int) (cc cs cn dp : Nat → Int32) : Prop := z = 0 → Dn (b + g) dp ∧ Dp g b cc cs cn dp
theorem Dz_0 {z b g : Int} {cc cs cn dp : Nat → Int32} (h : Dn b dp) (hg : g = 0) : Dz z b g cc cs cn dp := fun _ => ⟨fun i hi => h i (by omega), Dp_0 (by omega)⟩
theorem Dz_n {z b g : Int} {cc cs cn dp : Nat → Int32} (hz : ¬ z = 0) : Dz z b g cc cs cn dp := fun q => absurd q hz
theorem Dz_s {z z0 N N2 b n : Int} {cc cs cn dp cc2 cs2 cn2 dp2 : Nat → Int32} (h : Dz z0 b N cc cs cn dp) (hz : z0 = 0) (h57 : Ce n cc cc2) (h59 : Lc n cs cs2) (h58 : Ce (1505 * n) cn cn2) (hf : Fdd n cc2 cs2 cn2 dp dp2) (hn : n = b + N) (hN : N2 = N + 1) (hb : ∀ c, (cs c).toInt ≤ 5) (hcc : ∀ c, (cc c).toInt ≤ 300) (hb0 : 0 ≤ b) (hN0 : 0 ≤ N) : Dz z b N2 cc2 cs2 cn2 dp2 := fun _ => by
  obtain ⟨h1, h2⟩ := h hz
  refine ⟨fun i hi => ?_, Dp_s h2 h57 h59 h58 hf hn hN hb hcc hb0 hN0⟩
  obtain ⟨-, f1, f2, f3⟩ := hf
  by_cases e : i = n.toNat
  · rw [e]; omega
  · rw [f3 i e]; exact h1 i (by omega)
def aloneL (n : Nat) : List Int := if n = 0 then [] else [(n : Int)]
def alR (rows : List (List (List Int))) (n : Nat) : List (List Int) := rows.getD n [] ++ [aloneL n]
def cutsN (b : Nat) (on tw : Nat → Int32) (K : Nat) : Nat → Option (List (List (List Int)))
  | 0 => some (List.replicate b [])
  | g + 1 => (cutsN b on tw K g).bind (fun rows => (gateL (alR rows ((on g).toInt / 2).toNat) (alR rows ((tw g).toInt / 2).toNat) K).map (fun r => rows ++ [r]))
theorem cutsN_none {b : Nat} {on tw : Nat → Int32} {K g : Nat} (h : cutsN b on tw K g = none) (d : Nat) : cutsN b on tw K (g + d) = none := by
  induction d with
  | zero => exact h
  | succ d ih => rw [Nat.add_succ, cutsN, ih]; rfl
def rowsL (cc cs cn : Nat → Int32) (N : Nat) : List (List (List Int)) := (List.range N).map (rowL cc cs cn)
theorem aa_i {N : Int} {cc cs cn : Nat → Int32} (h : Ca N cc cs cn) (h0 : (cc 0).toInt = 0 ∧ (cs 0).toInt = 0) (hp : ∀ n, 0 ≤ (cc n).toInt) {n : Nat} (hn : (n : Int) < N) : cutL cs cn (301 * n + (cc n).toInt.toNat) = aloneL n := by
  unfold aloneL
  by_cases e : n = 0
  · subst e
    rw [if_pos rfl, h0.1]
    unfold cutL
    rw [show 301 * 0 + (0 : Int).toNat = 0 from rfl, h0.2]; rfl
  · have p := hp n
    obtain ⟨q1, q2⟩ := h n (301 * n + (cc n).toInt.toNat) hn (by omega) (by omega)
    rw [if_neg e]
    unfold cutL
    rw [q1]
    exact congrArg (fun z => [z]) q2
theorem al_i {N : Int} {cc cs cn : Nat → Int32} (h : Ca N cc cs cn) (h0 : (cc 0).toInt = 0 ∧ (cs 0).toInt = 0) (hp : ∀ n, 0 ≤ (cc n).toInt) {n : Nat} (hn : (n : Int) < N) : alR (rowsL cc cs cn N.toNat) n = allL cc cs cn n := by
  unfold alR allL
  rw [aa_i h h0 hp hn]
  congr 1
  unfold rowsL
  rw [List.getD_eq_getElem?_getD, List.getElem?_map, List.getElem?_range (by omega)]; rfl
def Cu (z b g K : Int) (on tw cc cs cn : Nat → Int32) : Prop := (z = 0 → cutsN b.toNat on tw K.toNat g.toNat = some (rowsL cc cs cn (b + g).toNat)) ∧ (¬ z = 0 → cutsN b.toNat on tw K.toNat g.toNat = none)
theorem rows_e {N : Int} {cc cs cn cc2 cs2 cn2 : Nat → Int32} (h57 : Ce N cc cc2) (h59 : Lc N cs cs2) (h58 : Ce (1505 * N) cn cn2) (hb : ∀ c, (cs c).toInt ≤ 5) (hcc : ∀ c, (cc c).toInt ≤ 300) {n : Nat} (hn : (n : Int) < N) : rowL cc2 cs2 cn2 n = rowL cc cs cn n := by
  unfold rowL
  rw [h57 n hn]
  refine List.map_congr_left (fun i hi => ?_)
  have hi2 := List.mem_range.mp hi
  have l := hcc n
  exact cut_c (h59 _ (by omega)) (hb _) (fun j q1 q2 => h58 j (by omega))
theorem Cu_0 {z b g K : Int} {on tw cc cs cn : Nat → Int32} (hg : g = 0) (hz : z = 0) (hc : ∀ n : Nat, (n : Int) < b → (cc n).toInt = 0) : Cu z b g K on tw cc cs cn := by
  subst hg
  refine ⟨fun _ => ?_, fun q => absurd hz q⟩
  show some _ = some _
  congr 1
  unfold rowsL
  rw [Int.add_zero]
  apply List.ext_getElem
  · rw [List.length_replicate, List.length_map, List.length_range]
  · intro i h1 h2
    rw [List.getElem_replicate, List.getElem_map, List.getElem_range]
    rw [List.length_replicate] at h1
    unfold rowL
    rw [hc i (by omega)]; rfl
theorem Cu_s {z z2 b g g2 K n : Int} {on tw cc cs cn cc2 cs2 cn2 : Nat → Int32} {gg : Nat} (h : Cu z b g K on tw cc cs cn) (hz : z = 0) (hca : Ca n cc cs cn) (h0 : (cc 0).toInt = 0 ∧ (cs 0).toInt = 0) (hp : ∀ n, 0 ≤ (cc n).toInt) (h57 : Ce n cc cc2) (h59 : Lc n cs cs2) (h58 : Ce (1505 * n) cn cn2) (hb : ∀ c, (cs c).toInt ≤ 5) (hcc : ∀ c, (cc c).toInt ≤ 300) (hgg : (gg : Int) = g) (hn : n = b + g) (hg2 : g2 = g + 1) (hgx : Gx b (g + 1) on tw) (hb0 : 0 ≤ b) (hp2 : Gp2 z2 (rowL cc2 cs2 cn2 n.toNat) (allL cc cs cn ((on gg).toInt / 2).toNat) (allL cc cs cn ((tw gg).toInt / 2).toNat) K.toNat) : Cu z2 b g2 K on tw cc2 cs2 cn2 := by
  obtain ⟨x1, x2, x3⟩ := hgx gg (by omega)
  have h1 := h.1 hz
  have e1 : g2.toNat = gg + 1 := by omega
  have e2 : g.toNat = gg := by omega
  rw [e2, show (b + g).toNat = n.toNat by omega] at h1
  have ea := al_i hca h0 hp (n := ((on gg).toInt / 2).toNat) (by omega)
  have ed := al_i hca h0 hp (n := ((tw gg).toInt / 2).toNat) (by omega)
  refine ⟨fun hz2 => ?_, fun hz2 => ?_⟩
  · rw [e1, cutsN, h1, Option.bind_some, ea, ed, hp2.1 hz2, Option.map_some]
    congr 1
    unfold rowsL
    rw [show (b + g2).toNat = n.toNat + 1 by omega, List.range_succ, List.map_append]
    congr 1
    exact List.map_congr_left (fun i hi => (rows_e h57 h59 h58 hb hcc (by have := List.mem_range.mp hi; omega)).symm)
  · rw [e1, cutsN, h1, Option.bind_some, ea, ed, hp2.2 hz2]; rfl
def Hs (r b G K : Int) (on tw : Nat → Int32) : Prop := (¬ r = 0 → (cutsN b.toNat on tw K.toNat G.toNat).isSome = true) ∧ (r = 0 → cutsN b.toNat on tw K.toNat G.toNat = none)
theorem Hs_i {r z b g G K : Int} {on tw cc cs cn : Nat → Int32} (h : Cu z b g K on tw cc cs cn) (hg : g ≤ G) (hg0 : 0 ≤ g) (hx : (z = 0 ∧ G ≤ g ∧ ¬ r = 0) ∨ (¬ z = 0 ∧ r = 0)) : Hs r b G K on tw := by
  rcases hx with ⟨q1, q2, q3⟩ | ⟨q1, q2⟩
  · refine ⟨fun _ => ?_, fun q => absurd q q3⟩
    rw [show G.toNat = g.toNat by omega, h.1 q1]; rfl
  · refine ⟨fun q => absurd q2 q, fun _ => ?_⟩
    have := cutsN_none (h.2 q1) (G.toNat - g.toNat)
    rw [show g.toNat + (G.toNat - g.toNat) = G.toNat by omega] at this
    exact this
abbrev Sa (G b : Int) (cc cs cn : Nat → Int32) : Prop := ∀ g : Nat, (g : Int) < G → Sn (b + (g : Int)) cc cs cn
theorem Sa_i {G b : Int} {on tw cc cs cn : Nat → Int32} (h : Cy G b G on tw cc cs cn) (hg : Gx b G on tw) : Sa G b cc cs cn := fun g hgg => by
  obtain ⟨x1, x2, x3⟩ := hg g hgg
  exact Sn_x (h g hgg) hg (by omega) (by omega)
def Fz (r b G : Int) (on tw cc cs cn dp : Nat → Int32) : Prop := ¬ r = 0 → Cz (b + G) b G on tw cc cs cn ∧ Sa G b cc cs cn ∧ Dn (b + G) dp ∧ Dp G b cc cs cn dp
theorem Fz_i {r z b g G N : Int} {on tw cc cs cn dp : Nat → Int32} (h1 : Cz N b G on tw cc cs cn) (h2 : Cy g b G on tw cc cs cn) (hg : Gx b G on tw) (h3 : Dz z b g cc cs cn dp) (hN : N = b + g) (hx : (z = 0 ∧ G = g) ∨ r = 0) : Fz r b G on tw cc cs cn dp := fun hr => by
  obtain ⟨q1, q2⟩ := hx.resolve_right hr
  subst q2
  obtain ⟨d1, d2⟩ := h3 q1
  subst hN
  exact ⟨h1, Sa_i h2 hg, d1, d2⟩
def Zz (n : Int) (cc cs : Nat → Int32) : Prop := n ≤ 0 ∨ ((cc 0).toInt = 0 ∧ (cs 0).toInt = 0)
theorem Zz_0 {n : Int} {cc cs : Nat → Int32} (h : n ≤ 0) : Zz n cc cs := Or.inl h
theorem Zz_s {n n2 : Int} {cc cs cs2 : Nat → Int32} {i : Nat} {v : Int32} (h : Zz n cc cs) (hi : (i : Int) = n) (hv : v.toInt = 0) (ha : Al n (upd cc i v) cs cs2) (h0 : n = 0 → (cs2 (upd cc i v i).toInt.toNat).toInt = 0) : Zz n2 (upd cc i v) cs2 := Or.inr (by
  by_cases e : n = 0
  · have ei : i = 0 := by omega
    subst ei
    have q := h0 e
    rw [up_s, hv] at q
    exact ⟨by rw [up_s]; exact hv, q⟩
  · have q := h.resolve_left (by omega)
    have en : n.toNat = i := by omega
    have hx := (ha 0).2
    rw [en, up_s, hv] at hx
    rw [up_o (by omega), hx (by omega)]
    exact q)
theorem Zz_e {n N : Int} {cc cs cc2 cs2 : Nat → Int32} (h : Zz n cc cs) (h57 : Ce N cc cc2) (h59 : Lc N cs cs2) (hN : 1 ≤ N) : Zz n cc2 cs2 := by
  rcases h with h | ⟨h1, h2⟩
  · exact Or.inl h
  · exact Or.inr ⟨by rw [h57 0 (by omega)]; exact h1, by rw [h59 0 (by omega)]; exact h2⟩
theorem Zz_w {n n2 : Int} {cc cs : Nat → Int32} (h : Zz n cc cs) (hn : 1 ≤ n) : Zz n2 cc cs := Or.inr (h.resolve_left (by omega))
theorem Zz_1 {n : Int} {cc cs : Nat → Int32} (h : Zz n cc cs) (hn : 1 ≤ n) : (cc 0).toInt = 0 ∧ (cs 0).toInt = 0 := h.resolve_left (by omega)
theorem Ca_i {N N2 : Int} {v : Int32} {cc cs cn cs2 cn2 : Nat → Int32} (h : Ca N cc cs cn) (hcc : ∀ n, 0 ≤ (cc n).toInt ∧ (cc n).toInt ≤ 300) (ha : Al N cc cs cs2) (hn : An N v cc cn cn2) (hv : v.toInt = N) (h1 : 1 ≤ v.toInt → (cs2 (301 * v.toInt + (cc v.toNatClampNeg).toInt).toNat).toInt = 1) (hN : N2 = N + 1) (h0 : 0 ≤ N) : Ca N2 cc cs2 cn2 := by
  have hc : 0 ≤ (cc N.toNat).toInt := (hcc N.toNat).1
  have hz : Ca N cc cs2 cn2 := Ca_w h (fun c => (hcc c).2) (fun _ _ => rfl) (fun c q => (ha c).2 (by omega)) (fun j q => (hn j).2 (by omega))
  intro n c q1 q2 q3
  by_cases e : (n : Int) = N
  · have ev : v.toNatClampNeg = n := by have := tn_n v; omega
    have en : N.toNat = n := by omega
    rw [ev] at h1
    rw [en] at hc
    have h2 := h1 (by omega)
    rw [show (301 * v.toInt + (cc n).toInt).toNat = c by omega] at h2
    refine ⟨h2, ?_⟩
    rw [(hn (5 * c)).1 (by rw [en]; omega)]; omega
  · exact hz n c (by omega) q2 q3
theorem Sn_c {n n2 b G : Int} {g : Nat} {on tw cc cs cn : Nat → Int32} (h : Cx n ((on g).toInt / 2) ((tw g).toInt / 2) b G on tw cc cs cn) (hg : Gx b G on tw) (hn : n = b + (g : Int)) (hG : (g : Int) < G) (e : n2 = n) : Sn n2 cc cs cn := by
  obtain ⟨x1, x2, x3⟩ := hg g hG
  subst e
  exact Sn_x h hg (by omega) (by omega)
theorem lp_e {m z : Int} {f : Nat → Int32} {i j : Nat} (h : Lp m (f i).toInt z) (hm : 2 ≤ m) (hz : z = 0) (e : j = i) : 1 ≤ (f j).toInt := by
  rw [e]
  exact (h hm).resolve_right (fun q => q hz)
theorem fdd_o {n n2 : Int} {cc cs cn dp dp' dp2 : Nat → Int32} (h : Fdd n cc cs cn dp dp2) (e : n2 = n) (ed : dp' = dp) : Fdd n2 cc cs cn dp' dp2 := by
  subst e ed
  exact h
theorem Gx_le {b n n2 : Int} {on tw : Nat → Int32} (h : Gx b n on tw) (hn : n2 ≤ n) : Gx b n2 on tw := fun g hg => h g (by omega)

abbrev Mo (m k : Int) (ou dp : Nat → Int32) : Prop := ∀ j i : Nat, (j : Int) < k → (i : Int) = (ou j).toInt / 2 → (dp i).toInt ≤ m
theorem Mo_0 {m : Int} {ou dp : Nat → Int32} : Mo m 0 ou dp := fun j i h => by exfalso; omega
theorem Mo_s {m m2 k k2 : Int} {ou dp : Nat → Int32} {q : Nat} {y : Int32} (h : Mo m k ou dp) (hk : k2 = k + 1) (hm : m ≤ m2) (hy : y.toInt = (dp q).toInt) (hq : ∀ j : Nat, (j : Int) = k → (q : Int) = (ou j).toInt / 2) (hm2 : y.toInt ≤ m2) : Mo m2 k2 ou dp := fun j i hj hi => by
  by_cases e : (j : Int) = k
  · have := hq j e
    rw [show i = q by omega]; omega
  · have := h j i (by omega) hi
    omega
theorem Mo_w {m k k2 : Int} {ou dp : Nat → Int32} (h : Mo m k ou dp) (hk : k2 ≤ k) : Mo m k2 ou dp := fun j i hj hi => h j i (by omega) hi
abbrev Tm (b : Int) (ic dp tm : Nat → Int32) : Prop := ∀ x : Nat, b ≤ (x : Int) → x < 210 → ¬ (ic x).toInt = 0 → (dp x).toInt ≤ (tm x).toInt
theorem Tm_0 {b : Int} {ic dp tm : Nat → Int32} (h : Fc 210 ic) : Tm b ic dp tm := fun x _ h2 h3 => absurd (h x (by omega)) h3
theorem Tm_u {b : Int} {ic dp tm : Nat → Int32} {x : Nat} {v w : Int32} (h : Tm b ic dp tm) (hv : (dp x).toInt ≤ v.toInt ∨ (v.toInt = (tm x).toInt ∧ ¬ (ic x).toInt = 0)) : Tm b (upd ic x w) dp (upd tm x v) := fun y h1 h2 h3 => by
  by_cases e : y = x
  · subst e
    rw [up_s]
    rcases hv with q | ⟨q1, q2⟩
    · exact q
    · rw [q1]; exact h y h1 h2 q2
  · rw [up_o e] at h3 ⊢
    exact h y h1 h2 h3
theorem Tm_at {b : Int} {ic dp tm : Nat → Int32} (h : Tm b ic dp tm) (n : Int32) (h0 : 0 ≤ n.toInt) (h1 : b ≤ n.toInt) (h2 : n.toInt < 210) (h3 : ¬ (ic n.toNatClampNeg).toInt = 0) : (dp n.toNatClampNeg).toInt ≤ (tm n.toNatClampNeg).toInt := by
  have := tn_n n
  exact h _ (by omega) (by omega) h3
def Atk (a c n t : Int) (cc cs cn dp : Nat → Int32) : Prop := (0 ≤ a → 301 * n ≤ a ∧ a < 301 * n + (cc n.toNat).toInt ∧ Nk5 (fun i => (dp i).toInt + 1 ≤ t) a.toNat (cs a.toNat).toInt cn) ∧ (∀ c' : Nat, 301 * n ≤ (c' : Int) → (c' : Int) < c → Nk5 (fun i => (dp i).toInt + 1 ≤ t) c' (cs c').toInt cn → 0 ≤ a)
theorem At_0 {a c n t : Int} {cc cs cn dp : Nat → Int32} (ha : a < 0) (hc : c ≤ 301 * n) : Atk a c n t cc cs cn dp := ⟨fun q => by omega, fun c' h1 h2 => by exfalso; omega⟩
section AT
variable {a a2 c c2 n t r : Int} {cc cs cn dp : Nat → Int32} {cN : Nat}
theorem At_n (h : Atk a c n t cc cs cn dp) (hd : Do r cN cs cn dp) (hcN : (cN : Int) = c) (hr : t < r) (ht : 1 ≤ t) (hc : c2 = c + 1) (ha : a2 = a) : Atk a2 c2 n t cc cs cn dp := by
  subst ha
  refine ⟨h.1, fun c' h1 h2 h3 => ?_⟩
  by_cases e : (c' : Int) = c
  · have ec : c' = cN := by omega
    subst ec
    have := hd.2.2 t ht h3
    omega
  · exact h.2 c' h1 (by omega) h3
theorem At_k (h : Atk a c n t cc cs cn dp) (ha0 : 0 ≤ a) (ha : a2 = a) : Atk a2 c2 n t cc cs cn dp := by
  subst ha
  exact ⟨h.1, fun _ _ _ _ => ha0⟩
theorem At_y (hd : Do r cN cs cn dp) (hcN : (cN : Int) = a2) (hr : r ≤ t) (h1 : 301 * n ≤ a2) (h2 : a2 < 301 * n + (cc n.toNat).toInt) : Atk a2 c2 n t cc cs cn dp := by
  refine ⟨fun _ => ⟨h1, h2, fun k i hk hi => ?_⟩, fun _ _ _ _ => by omega⟩
  rw [show a2.toNat = cN by omega] at hk hi
  have := hd.2.1 k i hk hi
  have this : (dp i).toInt + 1 ≤ r := this
  show (dp i).toInt + 1 ≤ t
  omega
theorem At_e {N b : Int} {g nN : Nat} (h : Atk a c n t cc cs cn dp) (hp : Dp N b cc cs cn dp) (hg : (g : Int) < N) (hn : (nN : Int) = b + (g : Int)) (hnn : (nN : Int) = n) (hc : 301 * n + (cc nN).toInt ≤ c) (ht : (dp nN).toInt ≤ t) : 0 ≤ a := by
  obtain ⟨d1, c', c1, c2, c3⟩ := hp g nN hg hn
  exact h.2 c' (by omega) (by omega) (fun k i hk hi => by
    obtain ⟨q1, q2⟩ : i < nN ∧ (dp i).toInt + 1 ≤ (dp nN).toInt := c3 k i hk hi
    show (dp i).toInt + 1 ≤ t
    omega)
end AT
abbrev Nd (a : Nat) (n t : Int) (cs cn dp : Nat → Int32) : Prop := Nk5 (fun i => (i : Int) < n ∧ (dp i).toInt + 1 ≤ t) a (cs a).toInt cn
theorem Nd_i {a c n t G b : Int} {g aN : Nat} {cc cs cn dp : Nat → Int32} (h : Atk a c n t cc cs cn dp) (hs : Sa G b cc cs cn) (ha : 0 ≤ a) (haN : (aN : Int) = a) (hg : (g : Int) < G) (hn : n = b + (g : Int)) : Nd aN n t cs cn dp := fun k i hk hi => by
  obtain ⟨h1, h2, h3⟩ := h.1 ha
  rw [show a.toNat = aN by omega] at h3
  have q := hs g hg
  rw [← hn] at q
  exact ⟨q aN (by omega) (by omega) k i hk hi, h3 k i hk hi⟩
theorem Nd_at {a p : Nat} {n t k : Int} {x : Int32} {cs cn dp : Nat → Int32} (h : Nd a n t cs cn dp) (hx : x.toInt = (cn p).toInt) (hp : (p : Int) = 5 * (a : Int) + k) (hk0 : 0 ≤ k) (hk : k < (cs a).toInt) (h0 : 0 ≤ x.toInt) : x.toInt < n ∧ (dp x.toNatClampNeg).toInt + 1 ≤ t := by
  have t1 := tn_n x
  have q := h k.toNat x.toNatClampNeg (by omega) (by rw [show 5 * a + k.toNat = p by omega]; omega)
  obtain ⟨q1, q2⟩ : (x.toNatClampNeg : Int) < n ∧ (dp x.toNatClampNeg).toInt + 1 ≤ t := q
  exact ⟨by omega, q2⟩
theorem Tm_u2 {b : Int} {ic dp tm : Nat → Int32} {x y : Nat} {v w : Int32} (h : Tm b ic dp tm) (e : x = y) (hv : (dp y).toInt ≤ v.toInt) : Tm b (upd ic x w) dp (upd tm y v) := by
  subst e
  exact Tm_u h (Or.inl hv)
def Hc (h b G K : Int) (on tw : Nat → Int32) : Prop := ¬ h = 0 → (cutsN b.toNat on tw K.toNat G.toNat).isSome = true
theorem hs_ne {r z b G K K2 : Int} {on tw : Nat → Int32} (h : Hs r b G K on tw) (hc : Hc z b G K2 on tw) (e : K2 = K) (hz : ¬ z = 0) : ¬ r = 0 := fun q => by
  subst e
  have h1 := hc hz
  rw [h.2 q] at h1
  cases h1
theorem hc_i {r z b G K K2 : Int} {on tw : Nat → Int32} (h : Hs r b G K on tw) (e : K2 = K) (hr : ¬ r = 0) : Hc z b G K2 on tw := fun _ => by subst e; exact h.1 hr
theorem hc_0 {z b G K : Int} {on tw : Nat → Int32} (hz : z = 0) : Hc z b G K on tw := fun q => absurd hz q
abbrev Fs (n : Int) (cc best : Nat → Int32) : Prop := 301 * n ≤ (best n.toNat).toInt ∧ (best n.toNat).toInt < 301 * n + (cc n.toNat).toInt
theorem Fs_u {n : Int} {cc f : Nat → Int32} {i : Nat} {v : Int32} (hi : i = n.toNat) (h1 : 301 * n ≤ v.toInt) (h2 : v.toInt < 301 * n + (cc i).toInt) : Fs n cc (upd f i v) := by
  subst hi
  unfold Fs
  rw [up_s]
  exact ⟨h1, h2⟩
def Bd (z b g : Int) (cc best : Nat → Int32) : Prop := z = 0 → ∀ n : Nat, b ≤ (n : Int) → (n : Int) < b + g → 301 * (n : Int) ≤ (best n).toInt ∧ (best n).toInt < 301 * (n : Int) + (cc n).toInt
theorem Bd_0 {z b g : Int} {cc best : Nat → Int32} (hg : g ≤ 0) : Bd z b g cc best := fun _ n h1 h2 => by exfalso; omega
theorem Bd_n {z b g : Int} {cc best : Nat → Int32} (hz : ¬ z = 0) : Bd z b g cc best := fun q => absurd q hz
theorem Bd_s {z z0 b g g2 n n2 : Int} {cc cc2 best best1 best2 : Nat → Int32} (h : Bd z0 b g cc best) (hz : z0 = 0) (h57 : Ce n cc cc2) (hu : Ub n2 best1 best2) (h1 : best1 = best) (hf : Fs n2 cc2 best2) (hn : n = b + g) (hn2 : n2 = n) (hg : g2 = g + 1) (hb : 0 ≤ b) (hg0 : 0 ≤ g) : Bd z b g2 cc2 best2 := fun _ m q1 q2 => by
  subst hn2 h1
  by_cases e : (m : Int) = n2
  · have em : n2.toNat = m := by omega
    obtain ⟨f1, f2⟩ := hf
    rw [em] at f1 f2
    omega
  · rw [hu m (by omega), h57 m (by omega)]
    exact h hz m q1 (by omega)
def Be (r b G : Int) (cc best : Nat → Int32) : Prop := ¬ r = 0 → ∀ n : Nat, b ≤ (n : Int) → (n : Int) < b + G → 301 * (n : Int) ≤ (best n).toInt ∧ (best n).toInt < 301 * (n : Int) + (cc n).toInt
theorem Be_i {r z b g G : Int} {cc best : Nat → Int32} (h : Bd z b g cc best) (hx : (z = 0 ∧ G = g) ∨ r = 0) : Be r b G cc best := fun hr => by
  obtain ⟨q1, q2⟩ := hx.resolve_right hr
  subst q2
  exact h q1
abbrev Rb (c : Nat) (N : Int) (cs cn re : Nat → Int32) : Prop := Nk5 (fun i => (re i).toInt < 2 * N) c (cs c).toInt cn
theorem Rb_w {c : Nat} {N N2 : Int} {cs cn re : Nat → Int32} (h : Rb c N cs cn re) (hN : N ≤ N2) : Rb c N2 cs cn re := fun k i hk hi => by
  have := h k i hk hi
  have this : (re i).toInt < 2 * N := this
  show (re i).toInt < 2 * N2
  omega
theorem Rb_at {c p q : Nat} {N k : Int} {x y : Int32} {cs cn re : Nat → Int32} (h : Rb c N cs cn re) (hx : x.toInt = (cn p).toInt) (hy : y.toInt = (re q).toInt) (hp : (p : Int) = 5 * (c : Int) + k) (hq : (q : Int) = x.toInt) (hk0 : 0 ≤ k) (hk : k < (cs c).toInt) : y.toInt < 2 * N := by
  have e : p = 5 * c + k.toNat := by omega
  rw [hy]
  exact h k.toNat q (by omega) (by rw [← e]; omega)
theorem Rb_i {b G N L K : Int} {n c : Nat} {x : Int32} {ou on tw nd us cc cs cn best re : Nat → Int32} (hz : Cz (b + G) b G on tw cc cs cn) (hs : Sa G b cc cs cn) (hp : ∀ n, 0 ≤ (cc n).toInt) (hb : Be 1 b G cc best) (hk : Lk (-1) b G K ou on tw nd us) (hr : Rn L b N nd re) (hx : x = best n) (hc : (c : Int) = x.toInt) (hn1 : b ≤ (n : Int)) (hn2 : (n : Int) < b + G) (hL : L = (n : Int)) (hnd : ¬ (nd n).toInt = 0) (hb0 : 0 ≤ b) : Rb c N cs cn re := fun k i hk' hi => by
  obtain ⟨q1, q2⟩ := hb (by decide) n hn1 hn2
  have e1 : ((n : Int) - b).toNat = n - b.toNat := by omega
  have hsn := hs (n - b.toNat) (by omega)
  rw [show b + ((n - b.toNat : Nat) : Int) = (n : Int) by omega] at hsn
  subst hx
  have h1 := hsn c (by omega) (by rw [show ((n : Int)).toNat = n by omega]; omega) k i hk' hi
  have h1 : (i : Int) < (n : Int) := h1
  have h2 := hz n c hn2 (by omega) (by omega) (fun m => ¬ (nd m).toInt = 0) (fun g j i' g1 g2 g3 g4 => hk.2.1 g j i' (by omega) g1 g2 g3 g4) hnd k i hk' hi
  exact hr i (by omega) (Or.inr h2)
theorem be_1 {r b G : Int} {cc best : Nat → Int32} (h : Be r b G cc best) (hr : ¬ r = 0) : Be 1 b G cc best := fun _ => h hr
theorem Rn_st {p X v b a37 a31 b37 b31 : Int} {nd re : Nat → Int32} {i : Nat} {w : Int32} (h : Rn (p + 1 + v) b (a37 + a31) nd re) (hX : X = v + 1) (hi : (i : Int) = p + 1 + v) (e37 : b37 = a37) (up : a31 ≤ b31) (hv : w.toInt < 2 * (b37 + b31)) : Rn (p + 1 + X) b (b37 + b31) nd (upd re i w) := Rn_s (Rn_w h (by omega)) (by omega) hi hv
theorem ix_half {x y : Int32} {w : Int} (e1 : x.toInt = y.toInt / 2) (e2 : y.toInt = w) (h0 : 0 ≤ x.toInt) : (x.toNatClampNeg : Int) = w / 2 := by rw [tn_p h0, e1, e2]
theorem Rn_kd {p v G N K : Int} {ou on tw nd us re : Nat → Int32} {g j i : Nat} {z : Int32} (hR : Rn (p + 1 + v) (p + 1) N nd re) (hL : Lk (-1) (p + 1) G K ou on tw nd us) (hG : Gx (p + 1) G on tw) (hz : z.toInt = (re i).toInt) (hg : (g : Int) = v) (hv : v < G) (hj : (j : Int) = p + 1 + v) (hn : ¬ (nd j).toInt = 0) (hi : (i : Int) = (on g).toInt / 2 ∨ (i : Int) = (tw g).toInt / 2) : z.toInt < 2 * N := Rn_kid hR hL hG g j i hz (by omega) (by omega) (by omega) hn hi (by omega)
theorem Rb_j {p v G N K : Int} {n c : Nat} {x : Int32} {ou on tw nd us cc cs cn best re : Nat → Int32} (hz : Cz (p + 1 + G) (p + 1) G on tw cc cs cn) (hs : Sa G (p + 1) cc cs cn) (hp : ∀ n, 0 ≤ (cc n).toInt) (hb : Be 1 (p + 1) G cc best) (hk : Lk (-1) (p + 1) G K ou on tw nd us) (hr : Rn (p + 1 + v) (p + 1) N nd re) (hx : x = best n) (hc : (c : Int) = x.toInt) (hn : (n : Int) = p + 1 + v) (hv0 : 0 ≤ v) (hvG : v < G) (hnd : ¬ (nd n).toInt = 0) (hp0 : 0 ≤ p) : Rb c N cs cn re := Rb_i hz hs hp hb hk hr hx hc (by omega) (by omega) (by omega) hnd (by omega)
theorem nf_i {p v : Int} {x y : Int32} (h1 : x.toInt = y.toInt + v) (h2 : y.toInt = p + 1) (h0 : 0 ≤ x.toInt) : (x.toNatClampNeg : Int) = p + 1 + v := by rw [tn_p h0, h1, h2]

def Lv (h r b G : Int) (ro : Nat) (pl on tw nd : Nat → Int32) : Prop := ∃ V : Nat → Prop, V ro ∧ (∀ g : Nat, V g → (g : Int) < G ∧ ¬ (nd (b + (g : Int)).toNat).toInt = 0 ∧ g ≤ ro) ∧ h + r = 1 + ((sm V (fun _ => 1) G.toNat : Nat) : Int) ∧ (∀ n : Nat, sm (fun _ => True) (eo pl n) h.toNat ≤ sm V (e1 on tw n) G.toNat) ∧ (∀ g n : Nat, V g → ¬ g = ro → (n : Int) = b + (g : Int) → sm (fun _ => True) (eo pl n) h.toNat + 1 ≤ sm V (e1 on tw n) G.toNat) ∧ (∀ k : Nat, (k : Int) < h → ∃ g : Nat, V g ∧ ((on g).toInt = (pl k).toInt ∨ (tw g).toInt = (pl k).toInt))
theorem sm_1 {G : Nat} {V : Nat → Prop} : sm V (fun _ => 1) G ≤ G := by
  have := sm_hi (P := V) (w := fun _ => 1) (c := 1) (l := 0) (fun _ => Nat.le_refl 1) G (fun _ _ _ => Nat.zero_le _)
  omega
theorem Lv_b {h r b G : Int} {ro : Nat} {pl on tw nd : Nat → Int32} (q : Lv h r b G ro pl on tw nd) (hG : 0 ≤ G) : h + r ≤ 1 + G ∧ 2 ≤ h + r := by
  obtain ⟨V, v1, v2, v3, -⟩ := q
  have h1 := sm_1 (G := G.toNat) (V := V)
  have h2 := sm_at (P := V) (w := fun _ => 1) (x := ro) G.toNat (by have := (v2 ro v1).1; omega) v1
  omega
theorem eo_u {f : Nat → Int32} {i n k : Nat} {v : Int32} (h : ¬ k = i) : eo (upd f i v) n k = eo f n k := by unfold eo; rw [up_o h]
theorem sm_le {w u : Nat → Nat} {m : Nat} (h : ∀ g, g < m → w g = u g) : sm (fun _ => True) w m = sm (fun _ => True) u m := Nat.le_antisymm (sm_mono m (fun g hg _ => ⟨trivial, Nat.le_of_eq (h g hg)⟩)) (sm_mono m (fun g hg _ => ⟨trivial, Nat.le_of_eq (h g hg).symm⟩))
theorem Lv_pop {h h2 r r2 b G : Int} {ro : Nat} {pl on tw nd : Nat → Int32} (q : Lv h r b G ro pl on tw nd) (hh : h2 = h - 1) (hr : r2 = r + 1) (h0 : 1 ≤ h) : Lv h2 r2 b G ro pl on tw nd := by
  obtain ⟨V, v1, v2, v3, v4, v5, v6⟩ := q
  have e : h.toNat = h2.toNat + 1 := by omega
  refine ⟨V, v1, v2, by omega, fun n => ?_, fun g n a b c => ?_, fun k hk => v6 k (by omega)⟩
  · have := v4 n
    rw [e, sm_t trivial] at this
    omega
  · have := v5 g n a b c
    rw [e, sm_t trivial] at this
    omega
theorem Lv_put {h h2 r b G K : Int} {ro m i j : Nat} {ou pl on tw nd us : Nat → Int32} {x y l : Int32} (q : Lv h r b G ro pl on tw nd) (hx : Gx b G on tw) (hk : Lk (-1) b G K ou on tw nd us) (hh : h2 = h + 1) (h0 : 1 ≤ h) (hi : (i : Int) = h - 1) (hj : (j : Int) = h) (hl : l.toInt = (pl i).toInt) (hm : l.toInt = 2 * (b + (m : Int))) (hu : (us (b + (m : Int)).toNat).toInt = 1) (hb : 0 ≤ b) (hbG : b + G ≤ 210) (hxv : x.toInt = (tw m).toInt) (hyv : y.toInt = (on m).toInt) : Lv h2 r b G ro (upd (upd pl i x) j y) on tw nd := by
  obtain ⟨V, v1, v2, v3, v4, v5, v6⟩ := q
  obtain ⟨g0, w1, w2⟩ := v6 i (by omega)
  obtain ⟨z1, z2, z3⟩ := v2 g0 w1
  obtain ⟨y1, y2, y3⟩ := hx g0 z1
  have hmG : (m : Int) < G := by omega
  have hmro : m < ro := by omega
  have en : ((b + (m : Int)).toNat : Int) = b + (m : Int) := by omega
  have hnd : ¬ (nd (b + (m : Int)).toNat).toInt = 0 := hk.2.1 g0 (b + (g0 : Int)).toNat (b + (m : Int)).toNat (by omega) z1 (by omega) z2 (by omega)
  have eh : h.toNat = i + 1 := by omega
  have hocc : eo pl (b + (m : Int)).toNat i = 1 := by unfold eo; rw [if_pos (by omega)]
  have hE : sm V (e1 on tw (b + (m : Int)).toNat) G.toNat ≤ 1 := by
    have a1 := hk.1 (b + (m : Int)).toNat (by omega)
    have a2 := sm_mono (P := V) (Q := fun g => (-1 : Int) < (g : Int) ∧ ¬ (nd (b + (g : Int)).toNat).toInt = 0) (w := e1 on tw (b + (m : Int)).toNat) (u := e1 on tw (b + (m : Int)).toNat) G.toNat (fun g _ hv => ⟨⟨by omega, (v2 g hv).2.1⟩, Nat.le_refl _⟩)
    omega
  have hnV : ¬ V m := fun hv => by
    have a3 := v5 m (b + (m : Int)).toNat hv (by omega) en
    rw [eh, sm_t trivial, hocc] at a3
    omega
  have hs : ∀ w : Nat → Nat, sm (fun g => V g ∨ g = m) w G.toNat = sm V w G.toNat + w m := fun w => sm_add G.toNat (by omega) hnV (fun g _ => Iff.rfl)
  have ho : ∀ n : Nat, sm (fun _ => True) (eo (upd (upd pl i x) j y) n) h2.toNat = sm (fun _ => True) (eo pl n) i + e1 on tw n m := fun n => by
    rw [show h2.toNat = i + 1 + 1 by omega, sm_t trivial, sm_t trivial, sm_le (u := eo pl n) (fun g hg => by rw [eo_u (by omega), eo_u (by omega)])]
    have b1 : eo (upd (upd pl i x) j y) n i = (if (tw m).toInt / 2 = (n : Int) then 1 else 0) := by
      rw [eo_u (by omega)]; unfold eo; rw [up_s, hxv]
    have b2 : eo (upd (upd pl i x) j y) n (i + 1) = (if (on m).toInt / 2 = (n : Int) then 1 else 0) := by
      unfold eo; rw [show i + 1 = j by omega, up_s, hyv]
    rw [b1, b2]
    unfold e1
    omega
  have hv : ∀ n : Nat, sm (fun _ => True) (eo pl n) h.toNat = sm (fun _ => True) (eo pl n) i + eo pl n i := fun n => by rw [eh, sm_t trivial]
  refine ⟨fun g => V g ∨ g = m, Or.inl v1, fun g hg => ?_, ?_, fun n => ?_, fun g n hg hgr hn => ?_, fun k hk' => ?_⟩
  · rcases hg with hg | hg
    · exact v2 g hg
    · subst hg; exact ⟨hmG, hnd, by omega⟩
  · rw [hs]; omega
  · rw [ho, hs]
    have c1 := v4 n
    rw [hv n] at c1
    omega
  · rw [ho, hs]
    rcases hg with hg | hg
    · have c1 := v5 g n hg hgr hn
      rw [hv n] at c1
      omega
    · subst hg
      have en2 : n = (b + (g : Int)).toNat := by omega
      have c1 := v4 n
      rw [hv n] at c1
      have hocc2 : eo pl n i = 1 := by rw [en2]; exact hocc
      omega
  · by_cases e1' : k = j
    · exact ⟨m, Or.inr rfl, Or.inl (by rw [e1', up_s]; exact hyv.symm)⟩
    · by_cases e2 : k = i
      · exact ⟨m, Or.inr rfl, Or.inr (by rw [e2, up_o (by omega), up_s]; exact hxv.symm)⟩
      · obtain ⟨g, a1, a2⟩ := v6 k (by omega)
        exact ⟨g, Or.inl a1, by rw [up_o e1', up_o e2]; exact a2⟩
theorem Lv_0 {h r b G : Int} {ro : Nat} {pl on tw nd : Nat → Int32} {x y : Int32} {j : Nat} (hh : h = 2) (hr : r = 0) (hG : (ro : Int) < G) (hj : (j : Int) = b + (ro : Int)) (hb : 0 ≤ b) (hnd : ¬ (nd j).toInt = 0) (hx : x.toInt = (tw ro).toInt) (hy : y.toInt = (on ro).toInt) {i0 i1 : Nat} (e0 : i0 = 0) (e1 : i1 = 1) : Lv h r b G ro (upd (upd pl i0 x) i1 y) on tw nd := by
  subst e0 e1
  have h1 := sm_add (P := fun _ => False) (Q := fun g => g = ro) (w := fun _ => 1) (x := ro) G.toNat (by omega) (fun q => q) (fun g _ => ⟨Or.inr, fun q => q.elim False.elim id⟩)
  have z0 : ∀ (w : Nat → Nat) (m : Nat), sm (fun _ => False) w m = 0 := fun w m => by
    induction m with
    | zero => rfl
    | succ m ih => rw [sm_f (fun q => q), ih]
  have hs : ∀ w : Nat → Nat, sm (fun g => g = ro) w G.toNat = w ro := fun w => by
    rw [sm_add (P := fun _ => False) (x := ro) G.toNat (by omega) (fun q => q) (fun g _ => ⟨Or.inr, fun q => q.elim False.elim id⟩), z0]; omega
  refine ⟨fun g => g = ro, rfl, fun g hg => ?_, by rw [hs]; omega, fun n => ?_, fun g n hg hgr => absurd hg hgr, fun k hk => ?_⟩
  · subst hg; exact ⟨hG, by rw [show (b + (g : Int)).toNat = j by omega]; exact hnd, Nat.le_refl _⟩
  · rw [hs, show h.toNat = 0 + 1 + 1 by omega, sm_t trivial, sm_t trivial]
    have b1 : eo (upd (upd pl 0 x) 1 y) n 0 = (if (tw ro).toInt / 2 = (n : Int) then 1 else 0) := by
      rw [eo_u (by omega)]; unfold eo; rw [up_s, hx]
    have b2 : eo (upd (upd pl 0 x) 1 y) n (0 + 1) = (if (on ro).toInt / 2 = (n : Int) then 1 else 0) := by
      unfold eo; rw [Nat.zero_add, up_s, hy]
    rw [b1, b2]
    unfold e1
    show 0 + _ + _ ≤ _
    omega
  · rcases (show k = 0 ∨ k = 1 by omega) with q | q
    · exact ⟨ro, rfl, Or.inr (by rw [q, up_o (by omega), up_s]; exact hx.symm)⟩
    · exact ⟨ro, rfl, Or.inl (by rw [q, up_s]; exact hy.symm)⟩
abbrev Rq (L b N : Int) (nd ap re : Nat → Int32) : Prop := ∀ n : Nat, (n : Int) < L → ((n : Int) < b ∨ (¬ (nd n).toInt = 0 ∧ (ap n).toInt = 0)) → (re n).toInt < 2 * N
theorem Rq_0 {L b c N : Int} {nd ap re : Nat → Int32} (h : Od c re) (hL : L ≤ c) (hN : c ≤ N) : Rq L b N nd ap re := fun n hn _ => by
  rw [h n (by omega)]; omega
theorem Rq_w {L b N N2 : Int} {nd ap re : Nat → Int32} (h : Rq L b N nd ap re) (hN : N ≤ N2) : Rq L b N2 nd ap re := fun n h1 h2 => by
  have := h n h1 h2
  omega
theorem Rq_s {L L2 b N : Int} {nd ap re : Nat → Int32} {i : Nat} {v : Int32} (h : Rq L b N nd ap re) (hL : L2 = L + 1) (hi : (i : Int) = L) (hv : v.toInt < 2 * N) : Rq L2 b N nd ap (upd re i v) := fun n h1 h2 => by
  by_cases e : n = i
  · rw [e, up_s]; exact hv
  · rw [up_o e]; exact h n (by omega) h2
theorem Rq_k {L L2 b N : Int} {nd ap re : Nat → Int32} {i : Nat} (h : Rq L b N nd ap re) (hL : L2 = L + 1) (hi : (i : Int) = L) (hb : b ≤ L) (hz : (nd i).toInt = 0 ∨ ¬ (ap i).toInt = 0) : Rq L2 b N nd ap re := fun n h1 h2 => by
  by_cases e : n = i
  · rw [e] at h2
    rcases h2 with q | ⟨q1, q2⟩
    · omega
    · rcases hz with z | z
      · exact absurd z q1
      · exact absurd q2 z
  · exact h n (by omega) h2
theorem Lv_leaf {h r b G K N : Int} {ro i q : Nat} {ou pl on tw nd us ap re : Nat → Int32} {l z : Int32} {ga : Int32} {inp : Int} (hv : Lv h r b G ro pl on tw nd) (hx : Gx b G on tw) (hk : Lk (-1) b G K ou on tw nd us) (ha : Ap b G on tw nd us ap) (hr : Rq (b + (ro : Int)) b N nd ap re) (hg : l.toInt % 2 = 1 ∨ l.toInt / 2 < b ∨ ¬ (us q).toInt = 1) (h0 : 1 ≤ h) (hi : (i : Int) = h - 1) (hl : l.toInt = (pl i).toInt) (hq : (q : Int) = l.toInt / 2) (hz : z.toInt = (re q).toInt) (hb : 0 ≤ b) (hbG : b + G ≤ 210) : z.toInt < 2 * N := by
  obtain ⟨V, v1, v2, v3, v4, v5, v6⟩ := hv
  obtain ⟨g0, w1, w2⟩ := v6 i (by omega)
  obtain ⟨z1, z2, z3⟩ := v2 g0 w1
  obtain ⟨y1, y2, y3⟩ := hx g0 z1
  have hnd : ¬ (nd q).toInt = 0 := hk.2.1 g0 (b + (g0 : Int)).toNat q (by omega) z1 (by omega) z2 (by omega)
  rw [hz]
  refine hr q (by omega) ?_
  by_cases e : (q : Int) < b
  · exact Or.inl e
  · refine Or.inr ⟨hnd, ?_⟩
    rcases Int.decEq (ap q).toInt 0 with e2 | e2
    · exfalso
      obtain ⟨a1, a2, g, j, a3, a4, a5, a6⟩ := ha q (by omega) e2
      have hodd : l.toInt % 2 = 1 := by
        rcases hg with q1 | q1 | q1
        · exact q1
        · omega
        · exact absurd a2 q1
      obtain ⟨x1, x2, x3⟩ := hx g a3
      have ne : ¬ g = g0 := fun e3 => by
        subst e3
        omega
      have b1 := hk.1 q (by omega)
      have b2 := sm_2 (P := fun g => (-1 : Int) < (g : Int) ∧ ¬ (nd (b + (g : Int)).toNat).toInt = 0) (w := e1 on tw q) (x := g) (y := g0) (m := G.toNat) (by omega) (by omega) ne ⟨by omega, by rw [show (b + (g : Int)).toNat = j by omega]; exact a5⟩ ⟨by omega, z2⟩
      have c1 : 1 ≤ e1 on tw q g := by
        unfold e1
        rcases a6 with a6 | a6
        · rw [if_pos (by omega)]; omega
        · rw [if_pos (show (tw g).toInt / 2 = (q : Int) by omega)]; omega
      have c2 : 1 ≤ e1 on tw q g0 := by
        unfold e1
        rcases w2 with w2 | w2
        · rw [if_pos (by omega)]; omega
        · rw [if_pos (show (tw g0).toInt / 2 = (q : Int) by omega)]; omega
      omega
    · exact e2
theorem Fn_b {b G K N L : Int} {ou on tw nd us ap re : Nat → Int32} (hk : Lk (-1) b G K ou on tw nd us) (hx : Gx b G on tw) (ha : Ap b G on tw nd us ap) (hr : Rq L b N nd ap re) (ho : No K L ou) (hp : ∀ k, 0 ≤ (ou k).toInt) (hb : 0 ≤ b) (hL : L ≤ 210) : Fn K N ou re := fun k hk' => by
  have h1 := ho k hk'
  have h2 := hp k
  have eq : (((ou k).toInt / 2).toNat : Int) = (ou k).toInt / 2 := by omega
  have hnd := hk.2.2 k ((ou k).toInt / 2).toNat hk' eq
  refine hr _ (by omega) ?_
  by_cases e : (((ou k).toInt / 2).toNat : Int) < b
  · exact Or.inl e
  · refine Or.inr ⟨hnd, ?_⟩
    rcases Int.decEq (ap ((ou k).toInt / 2).toNat).toInt 0 with e2 | e2
    · exfalso
      obtain ⟨a1, a2, g, j, a3, a4, a5, a6⟩ := ha _ (by omega) e2
      have b1 := hk.1 ((ou k).toInt / 2).toNat (by omega)
      have b2 := sm_at (P := fun _ => True) (w := eo ou ((ou k).toInt / 2).toNat) (x := k) K.toNat (by omega) trivial
      have b3 := sm_at (P := fun g => (-1 : Int) < (g : Int) ∧ ¬ (nd (b + (g : Int)).toNat).toInt = 0) (w := e1 on tw ((ou k).toInt / 2).toNat) (x := g) G.toNat (by omega) ⟨by omega, by rw [show (b + (g : Int)).toNat = j by omega]; exact a5⟩
      have c1 : 1 ≤ e1 on tw ((ou k).toInt / 2).toNat g := by
        unfold e1
        rcases a6 with a6 | a6
        · rw [if_pos (by omega)]; omega
        · rw [if_pos (show (tw g).toInt / 2 = ((((ou k).toInt / 2).toNat : Nat) : Int) by omega)]; omega
      have c2 : eo ou ((ou k).toInt / 2).toNat k = 1 := by unfold eo; rw [if_pos eq.symm]
      omega
    · exact e2
theorem Ga_no {r l inp b : Int} {us : Nat → Int32} {q : Nat} (h : Ga r l inp us) (hr : r = 0) (hq : (q : Int) = l / 2) (hb : b = inp + 1) : l % 2 = 1 ∨ l / 2 < b ∨ ¬ (us q).toInt = 1 := by
  rcases h with h | h
  · omega
  · have h2 := h.2
    rw [show (l / 2).toNat = q by omega] at h2
    omega
theorem Rq_n {L L2 b N : Int} {nd ap re : Nat → Int32} (h : Rq L b N nd ap re) (e : L2 = L) : Rq L2 b N nd ap re := by subst e; exact h
theorem No_u {n N : Int} {f : Nat → Int32} {i : Nat} {v : Int32} (h : No n N f) (hv : v.toInt < 2 * N) : No n N (upd f i v) := fun k q => by
  by_cases e : k = i
  · rw [e, up_s]; exact hv
  · rw [up_o e]; exact h k q
theorem le_nb {a b c d : Int} (h1 : c = a) (h2 : b ≤ d) : a + b ≤ c + d := by omega
theorem Lv_n {h r b G : Int} {ro i : Nat} {pl on tw nd : Nat → Int32} (q : Lv h r b G ro pl on tw nd) (hx : Gx b G on tw) (hi : (i : Int) < h) : (pl i).toInt / 2 < b + G := by
  obtain ⟨V, v1, v2, v3, v4, v5, v6⟩ := q
  obtain ⟨g0, w1, w2⟩ := v6 i hi
  obtain ⟨z1, z2, z3⟩ := v2 g0 w1
  obtain ⟨y1, y2, y3⟩ := hx g0 z1
  omega
