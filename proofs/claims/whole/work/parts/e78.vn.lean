def Sd (l : List Int) : Prop := l.Pairwise (fun a b => a < b)
theorem sd_c {x : Int} {l : List Int} : Sd (x :: l) ↔ (∀ y ∈ l, x < y) ∧ Sd l := List.pairwise_cons
theorem mg_mem : ∀ {X Y : List Int} {z : Int}, z ∈ mergeL X Y ↔ z ∈ X ∨ z ∈ Y
  | [], Y, z => by rw [mg_0]; simp
  | x :: xs, [], z => by rw [mg_n]; simp
  | x :: xs, y :: ys, z => by
    rcases Int.lt_trichotomy x y with l | l | l
    · rw [mg_l l, List.mem_cons, mg_mem (X := xs) (Y := y :: ys), List.mem_cons, List.mem_cons, or_assoc]
    · rw [mg_e l, List.mem_cons, mg_mem (X := xs) (Y := ys), List.mem_cons, List.mem_cons]
      subst l
      constructor
      · rintro (h | h | h)
        · exact Or.inl (Or.inl h)
        · exact Or.inl (Or.inr h)
        · exact Or.inr (Or.inr h)
      · rintro ((h | h) | (h | h))
        · exact Or.inl h
        · exact Or.inr (Or.inl h)
        · exact Or.inl h
        · exact Or.inr (Or.inr h)
    · rw [mg_r l, List.mem_cons, mg_mem (X := x :: xs) (Y := ys), List.mem_cons, List.mem_cons]
      constructor
      · rintro (h | h | h)
        · exact Or.inr (Or.inl h)
        · exact Or.inl h
        · exact Or.inr (Or.inr h)
      · rintro (h | h | h)
        · exact Or.inr (Or.inl h)
        · exact Or.inl h
        · exact Or.inr (Or.inr h)
termination_by X Y => X.length + Y.length
theorem mg_sd : ∀ {X Y : List Int}, Sd X → Sd Y → Sd (mergeL X Y)
  | [], Y, _, hy => by rw [mg_0]; exact hy
  | x :: xs, [], hx, _ => by rw [mg_n]; exact hx
  | x :: xs, y :: ys, hx, hy => by
    have hx' := sd_c.mp hx
    have hy' := sd_c.mp hy
    rcases Int.lt_trichotomy x y with l | l | l
    · rw [mg_l l]
      refine sd_c.mpr ⟨fun z hz => ?_, mg_sd hx'.2 hy⟩
      rcases mg_mem.mp hz with h | h
      · exact hx'.1 z h
      · rcases List.mem_cons.mp h with e | e
        · rw [e]; exact l
        · have := hy'.1 z e; omega
    · rw [mg_e l]
      refine sd_c.mpr ⟨fun z hz => ?_, mg_sd hx'.2 hy'.2⟩
      rcases mg_mem.mp hz with h | h
      · exact hx'.1 z h
      · rw [l]; exact hy'.1 z h
    · rw [mg_r l]
      refine sd_c.mpr ⟨fun z hz => ?_, mg_sd hx hy'.2⟩
      rcases mg_mem.mp hz with h | h
      · rcases List.mem_cons.mp h with e | e
        · rw [e]; exact l
        · have := hx'.1 z e; omega
      · exact hy'.1 z h
termination_by X Y => X.length + Y.length
theorem ip_iff : ∀ {C J : List Int}, Sd C → Sd J → (isPartL C J = true ↔ ∀ x ∈ C, x ∈ J)
  | [], J, _, _ => ⟨fun _ x hx => absurd hx (List.not_mem_nil), fun _ => ip_0 J⟩
  | c :: cs, [], _, _ => ⟨fun h => absurd h (by unfold isPartL; decide), fun h => absurd (h c (List.mem_cons_self ..)) (List.not_mem_nil)⟩
  | c :: cs, j :: js, hc, hj => by
    have hc' := sd_c.mp hc
    have hj' := sd_c.mp hj
    unfold isPartL
    by_cases e : j = c
    · subst e
      rw [if_pos rfl, ip_iff hc'.2 hj'.2]
      constructor
      · intro h x hx
        rcases List.mem_cons.mp hx with k | k
        · rw [k]; exact List.mem_cons_self ..
        · exact List.mem_cons_of_mem _ (h x k)
      · intro h x hx
        rcases List.mem_cons.mp (h x (List.mem_cons_of_mem _ hx)) with k | k
        · have := hc'.1 x hx; omega
        · exact k
    · rw [if_neg e, ip_iff hc hj'.2]
      constructor
      · intro h x hx
        exact List.mem_cons_of_mem _ (h x hx)
      · intro h x hx
        have cj : c ∈ js := by
          rcases List.mem_cons.mp (h c (List.mem_cons_self ..)) with k | k
          · exact absurd k.symm e
          · exact k
        rcases List.mem_cons.mp (h x hx) with k | k
        · have h1 := hj'.1 c cj
          rcases List.mem_cons.mp hx with k2 | k2
          · rw [k2]; exact cj
          · have h2 := hc'.1 x k2
            omega
        · exact k
theorem sd_nd {l : List Int} (h : Sd l) : l.Nodup := List.Pairwise.imp (fun {a b} (q : a < b) => by omega) h
theorem sd_len : ∀ {C J : List Int}, Sd C → Sd J → (∀ x ∈ C, x ∈ J) → C.length ≤ J.length ∧ (C.length = J.length → C = J)
  | [], [], _, _, _ => ⟨Nat.le_refl _, fun _ => rfl⟩
  | [], j :: js, _, _, _ => ⟨Nat.zero_le _, fun h => by cases h⟩
  | c :: cs, [], _, _, h => absurd (h c (List.mem_cons_self ..)) (List.not_mem_nil)
  | c :: cs, j :: js, hc, hj, h => by
    have hc' := sd_c.mp hc
    have hj' := sd_c.mp hj
    by_cases e : j = c
    · subst e
      have z := sd_len hc'.2 hj'.2 (fun x hx => by
        rcases List.mem_cons.mp (h x (List.mem_cons_of_mem _ hx)) with k | k
        · have := hc'.1 x hx; omega
        · exact k)
      refine ⟨by simp only [List.length_cons]; omega, fun k => ?_⟩
      rw [z.2 (by simp only [List.length_cons] at k; omega)]
    · have cj : c ∈ js := by
        rcases List.mem_cons.mp (h c (List.mem_cons_self ..)) with k | k
        · exact absurd k.symm e
        · exact k
      have z := sd_len hc hj'.2 (fun x hx => by
        rcases List.mem_cons.mp (h x hx) with k | k
        · have h1 := hj'.1 c cj
          rcases List.mem_cons.mp hx with k2 | k2
          · rw [k2]; exact cj
          · have h2 := hc'.1 x k2
            omega
        · exact k)
      simp only [List.length_cons] at z ⊢
      exact ⟨by omega, fun k => by omega⟩
def KpI (L acc : List (List Int)) : Prop := (∀ C ∈ acc, C ∈ L) ∧ acc.Nodup ∧ (∀ J ∈ L, ∃ C ∈ acc, ∀ x ∈ C, x ∈ J) ∧ ∀ C ∈ acc, ∀ J ∈ L, (∀ x ∈ J, x ∈ C) → J = C
theorem addC_c {acc : List (List Int)} {J : List Int} : (acc.any (fun C => isPartL C J) = true ∧ addC acc J = some acc) ∨ (acc.any (fun C => isPartL C J) = false ∧ ((acc.length = 300 ∧ addC acc J = none) ∨ (¬ acc.length = 300 ∧ addC acc J = some (acc ++ [J])))) := by
  unfold addC
  cases h : acc.any (fun C => isPartL C J) with
  | true => exact Or.inl ⟨rfl, by rw [if_pos rfl]⟩
  | false =>
    refine Or.inr ⟨rfl, ?_⟩
    rw [if_neg (by decide)]
    by_cases c : acc.length = 300
    · exact Or.inl ⟨c, if_pos c⟩
    · exact Or.inr ⟨c, if_neg c⟩
theorem KpI_s {L acc : List (List Int)} {J : List Int} (hL : ∀ C ∈ L, Sd C) (hJ : Sd J) (hs : ∀ C ∈ L, C.length ≤ J.length) (h : KpI L acc) : (acc.any (fun C => isPartL C J) = true → KpI (L ++ [J]) acc) ∧ (acc.any (fun C => isPartL C J) = false → KpI (L ++ [J]) (acc ++ [J])) := by
  obtain ⟨h1, h2, h3, h4⟩ := h
  have sm : ∀ C ∈ acc, (∀ x ∈ J, x ∈ C) → J = C := fun C hC hx => by
    have l := sd_len hJ (hL C (h1 C hC)) hx
    have := hs C (h1 C hC)
    exact l.2 (by omega)
  constructor
  · intro a
    obtain ⟨C, hC, hp⟩ := List.any_eq_true.mp a
    have hp := (ip_iff (hL C (h1 C hC)) hJ).mp hp
    refine ⟨fun D hD => List.mem_append_left _ (h1 D hD), h2, fun K hK => ?_, fun D hD K hK hx => ?_⟩
    · rcases List.mem_append.mp hK with k | k
      · exact h3 K k
      · rw [List.mem_singleton.mp k]; exact ⟨C, hC, hp⟩
    · rcases List.mem_append.mp hK with k | k
      · exact h4 D hD K k hx
      · rw [List.mem_singleton.mp k] at hx ⊢; exact sm D hD hx
  · intro a
    have na : ∀ C ∈ acc, ¬ ∀ x ∈ C, x ∈ J := fun C hC hx => by
      have : acc.any (fun C => isPartL C J) = true := List.any_eq_true.mpr ⟨C, hC, (ip_iff (hL C (h1 C hC)) hJ).mpr hx⟩
      rw [a] at this; cases this
    refine ⟨fun D hD => ?_, ?_, fun K hK => ?_, fun D hD K hK hx => ?_⟩
    · rcases List.mem_append.mp hD with k | k
      · exact List.mem_append_left _ (h1 D k)
      · exact List.mem_append_right _ k
    · refine List.nodup_append.mpr ⟨h2, List.pairwise_singleton _ _, fun C hC D hD e => ?_⟩
      rw [List.mem_singleton.mp hD] at e
      exact na C hC (by rw [e]; exact fun x hx => hx)
    · rcases List.mem_append.mp hK with k | k
      · obtain ⟨C, hC, hp⟩ := h3 K k
        exact ⟨C, List.mem_append_left _ hC, hp⟩
      · rw [List.mem_singleton.mp k]
        exact ⟨J, List.mem_append_right _ (List.mem_singleton.mpr rfl), fun x hx => hx⟩
    · rcases List.mem_append.mp hD with d | d <;> rcases List.mem_append.mp hK with k | k
      · exact h4 D d K k hx
      · rw [List.mem_singleton.mp k] at hx ⊢; exact sm D d hx
      · rw [List.mem_singleton.mp d] at hx ⊢
        obtain ⟨C, hC, hp⟩ := h3 K k
        exact absurd (fun x hx2 => hx x (hp x hx2)) (na C hC)
      · rw [List.mem_singleton.mp d, List.mem_singleton.mp k]
