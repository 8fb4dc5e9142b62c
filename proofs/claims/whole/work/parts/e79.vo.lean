def LnS (L : List (List Int)) : Prop := L.Pairwise (fun a b => a.length ≤ b.length)
theorem fm_c {acc : List (List Int)} {J : List Int} {M : List (List Int)} : (J :: M).foldlM addC acc = (addC acc J).bind (fun a => M.foldlM addC a) := List.foldlM_cons
theorem run_go : ∀ (M L acc : List (List Int)), (∀ C ∈ L ++ M, Sd C) → LnS (L ++ M) → KpI L acc → acc.length ≤ 300 → (∀ r : List (List Int), M.foldlM addC acc = some r → KpI (L ++ M) r ∧ r.length ≤ 300) ∧ (M.foldlM addC acc = none → ∃ W : List (List Int), W.length = 301 ∧ W.Nodup ∧ ∀ C ∈ W, C ∈ L ++ M ∧ ∀ J ∈ L ++ M, (∀ x ∈ J, x ∈ C) → J = C)
  | [], L, acc, hs, hl, hk, h3 => ⟨fun r hr => by
      have hr : some acc = some r := hr
      rw [List.append_nil, ← Option.some.inj hr]; exact ⟨hk, h3⟩, fun hr => by
      have hr : some acc = none := hr
      cases hr⟩
  | J :: M, L, acc, hs, hl, hk, h3 => by
    have e : L ++ J :: M = (L ++ [J]) ++ M := by rw [List.append_assoc]; rfl
    have hJ : Sd J := hs J (List.mem_append_right _ (List.mem_cons_self ..))
    have hL : ∀ C ∈ L, Sd C := fun C hC => hs C (List.mem_append_left _ hC)
    have pl := List.pairwise_append.mp hl
    have hLJ : ∀ C ∈ L, C.length ≤ J.length := fun C hC => pl.2.2 C hC J (List.mem_cons_self ..)
    have hJM : ∀ C ∈ M, J.length ≤ C.length := (List.pairwise_cons.mp pl.2.1).1
    obtain ⟨k1, k2⟩ := KpI_s hL hJ hLJ hk
    rw [fm_c]
    rcases addC_c (acc := acc) (J := J) with ⟨a, ea⟩ | ⟨a, ⟨a3, ea⟩ | ⟨a3, ea⟩⟩
    · have z := run_go M (L ++ [J]) acc (by rw [← e]; exact hs) (by rw [← e]; exact hl) (k1 a) h3
      rw [← e] at z
      rw [ea]; exact z
    · rw [ea]
      refine ⟨fun r hr => (by cases hr), fun _ => ⟨acc ++ [J], by rw [List.length_append]; show acc.length + 1 = 301; omega, (k2 a).2.1, fun C hC => ?_⟩⟩
      have kk := k2 a
      have cl : C.length ≤ J.length := by
        rcases List.mem_append.mp hC with c | c
        · exact hLJ C (hk.1 C c)
        · rw [List.mem_singleton.mp c]; exact Nat.le_refl _
      have cL : C ∈ L ++ [J] := kk.1 C hC
      refine ⟨by rw [e]; exact List.mem_append_left _ cL, fun K hK hx => ?_⟩
      rw [e] at hK
      rcases List.mem_append.mp hK with k | k
      · exact kk.2.2.2 C hC K k hx
      · have sC : Sd C := hs C (by rw [e]; exact List.mem_append_left _ cL)
        have sK : Sd K := hs K (by rw [e]; exact List.mem_append_right _ k)
        have l := sd_len sK sC hx
        have := hJM K k
        exact l.2 (by omega)
    · have z := run_go M (L ++ [J]) (acc ++ [J]) (by rw [← e]; exact hs) (by rw [← e]; exact hl) (k2 a) (by rw [List.length_append]; show acc.length + 1 ≤ 300; omega)
      rw [← e] at z
      rw [ea]; exact z
theorem nd_len : ∀ {W a : List (List Int)}, W.Nodup → (∀ x ∈ W, x ∈ a) → W.length ≤ a.length
  | [], a, _, _ => Nat.zero_le _
  | w :: W, a, hn, h => by
    have hn' := List.nodup_cons.mp hn
    have wa := h w (List.mem_cons_self ..)
    have z := nd_len (W := W) (a := a.erase w) hn'.2 (fun x hx => (List.mem_erase_of_ne (fun q => hn'.1 (by rw [← q]; exact hx))).mpr (h x (List.mem_cons_of_mem _ hx)))
    rw [List.length_erase_of_mem wa] at z
    have : 0 < a.length := List.length_pos_of_mem wa
    show W.length + 1 ≤ a.length
    omega
theorem KpI_m {L acc : List (List Int)} (h : KpI L acc) (C : List Int) : C ∈ acc ↔ (C ∈ L ∧ ∀ J ∈ L, (∀ x ∈ J, x ∈ C) → J = C) := by
  obtain ⟨h1, h2, h3, h4⟩ := h
  refine ⟨fun hC => ⟨h1 C hC, h4 C hC⟩, fun ⟨c1, c2⟩ => ?_⟩
  obtain ⟨D, hD, hx⟩ := h3 C c1
  rw [← c2 D (h1 D hD) hx]; exact hD
theorem KpI_0 : KpI [] [] := ⟨fun _ h => h, List.nodup_nil, fun J h => absurd h (List.not_mem_nil), fun C h => absurd h (List.not_mem_nil)⟩
theorem cut_same {L M : List (List Int)} (sL : ∀ C ∈ L, Sd C) (lL : LnS L) (lM : LnS M) (e : ∀ C : List Int, C ∈ L ↔ C ∈ M) : (L.foldlM addC [] = none ↔ M.foldlM addC [] = none) ∧ ∀ a b : List (List Int), L.foldlM addC [] = some a → M.foldlM addC [] = some b → a.Nodup ∧ b.Nodup ∧ ∀ C : List Int, C ∈ a ↔ C ∈ b := by
  have sM : ∀ C ∈ M, Sd C := fun C hC => sL C ((e C).mpr hC)
  obtain ⟨p1, p2⟩ := run_go L [] [] sL lL KpI_0 (by decide)
  obtain ⟨q1, q2⟩ := run_go M [] [] sM lM KpI_0 (by decide)
  rw [List.nil_append] at p1 p2 q1 q2
  have no : ∀ {X Y : List (List Int)}, (∀ C : List Int, C ∈ X ↔ C ∈ Y) → (∃ W : List (List Int), W.length = 301 ∧ W.Nodup ∧ ∀ C ∈ W, C ∈ X ∧ ∀ J ∈ X, (∀ x ∈ J, x ∈ C) → J = C) → ∀ b : List (List Int), KpI Y b → b.length ≤ 300 → False := fun {X Y} ee ⟨W, w1, w2, w3⟩ b kb lb => by
    have := nd_len w2 (a := b) (fun C hC => (KpI_m kb C).mpr ⟨(ee C).mp (w3 C hC).1, fun J hJ hx => (w3 C hC).2 J ((ee J).mpr hJ) hx⟩)
    omega
  refine ⟨⟨fun h => ?_, fun h => ?_⟩, fun a b ha hb => ?_⟩
  · cases hm : M.foldlM addC [] with
    | none => rfl
    | some b => exact (no e (p2 h) b (q1 b hm).1 (q1 b hm).2).elim
  · cases hm : L.foldlM addC [] with
    | none => rfl
    | some b => exact (no (fun C => (e C).symm) (q2 h) b (p1 b hm).1 (p1 b hm).2).elim
  · have ka := (p1 a ha).1
    have kb := (q1 b hb).1
    refine ⟨ka.2.1, kb.2.1, fun C => ?_⟩
    rw [KpI_m ka C, KpI_m kb C, e C]
    constructor
    · exact fun ⟨c, d⟩ => ⟨c, fun J hJ hx => d J ((e J).mpr hJ) hx⟩
    · exact fun ⟨c, d⟩ => ⟨c, fun J hJ hx => d J ((e J).mp hJ) hx⟩
def cndY (X : List Int) (s : Nat) (D : List (List Int)) : List (List Int) := (D.map (mergeL X)).filter (fun J => J.length = s)
def cndX (s : Nat) (A D : List (List Int)) : List (List Int) := A.flatMap (fun X => cndY X s D)
def cnd (A D : List (List Int)) (l : List Nat) : List (List Int) := l.flatMap (fun s => cndX s A D)
theorem fm_fl {α : Type} {f : α → List (List Int)} : ∀ {l : List α} {acc : List (List Int)}, (l.flatMap f).foldlM addC acc = l.foldlM (fun a x => (f x).foldlM addC a) acc
  | [], acc => rfl
  | x :: l, acc => by
    rw [List.flatMap_cons, List.foldlM_append, List.foldlM_cons]
    congr 1
    funext a
    exact fm_fl
theorem cndY_e {X : List Int} {s : Nat} : ∀ {D : List (List Int)} {acc : List (List Int)}, (cndY X s D).foldlM addC acc = loopY X s D acc
  | [], acc => rfl
  | Y :: D, acc => by
    unfold loopY
    rw [List.foldlM_cons]
    show (((mergeL X Y) :: D.map (mergeL X)).filter (fun J => J.length = s)).foldlM addC acc = _
    by_cases c : (mergeL X Y).length = s
    · rw [List.filter_cons_of_pos (by simpa using c), List.foldlM_cons, st_eq c]
      congr 1
      funext a
      exact cndY_e
    · rw [List.filter_cons_of_neg (by simpa using c), st_ne c]
      exact cndY_e
theorem gateL_e {A D : List (List Int)} {K : Nat} : gateL A D K = (cnd A D (List.range (K + 1))).foldlM addC [] := by
  unfold gateL loopS cnd
  rw [fm_fl]
  congr 1
  funext a s
  unfold loopX cndX
  rw [fm_fl]
  congr 1
  funext a X
  exact cndY_e.symm
theorem cnd_m {A D : List (List Int)} {l : List Nat} {J : List Int} : J ∈ cnd A D l ↔ ∃ X ∈ A, ∃ Y ∈ D, J = mergeL X Y ∧ J.length ∈ l := by
  unfold cnd cndX cndY
  simp only [List.mem_flatMap, List.mem_filter, List.mem_map, decide_eq_true_eq]
  constructor
  · rintro ⟨s, hs, X, hX, ⟨Y, hY, e⟩, el⟩
    exact ⟨X, hX, Y, hY, e.symm, by rw [el]; exact hs⟩
  · rintro ⟨X, hX, Y, hY, e, el⟩
    exact ⟨J.length, el, X, hX, ⟨Y, hY, e.symm⟩, rfl⟩
theorem cnd_l {A D : List (List Int)} : ∀ {l : List Nat}, l.Pairwise (fun a b => a < b) → LnS (cnd A D l)
  | [], _ => List.Pairwise.nil
  | s :: l, h => by
    have h' := List.pairwise_cons.mp h
    have e : cnd A D (s :: l) = cndX s A D ++ cnd A D l := List.flatMap_cons
    have m1 : ∀ J ∈ cndX s A D, J.length = s := fun J hJ => by
      have : J ∈ cnd A D [s] := by
        show J ∈ [s].flatMap (fun s => cndX s A D)
        rw [List.flatMap_cons, List.flatMap_nil, List.append_nil]; exact hJ
      obtain ⟨_, _, _, _, _, el⟩ := cnd_m.mp this
      exact List.mem_singleton.mp el
    rw [e]
    unfold LnS
    refine List.pairwise_append.mpr ⟨?_, cnd_l h'.2, fun J hJ K hK => ?_⟩
    · have : ∀ L : List (List Int), (∀ J ∈ L, J.length = s) → L.Pairwise (fun a b => a.length ≤ b.length) := fun L => by
        induction L with
        | nil => exact fun _ => List.Pairwise.nil
        | cons J L ih => exact fun q => List.pairwise_cons.mpr ⟨fun K hK => by rw [q J (List.mem_cons_self ..), q K (List.mem_cons_of_mem _ hK)]; exact Nat.le_refl _, ih (fun K hK => q K (List.mem_cons_of_mem _ hK))⟩
      exact this _ m1
    · obtain ⟨_, _, _, _, _, el⟩ := cnd_m.mp hK
      rw [m1 J hJ]
      exact Nat.le_of_lt (h'.1 _ el)
