theorem wv_192 : Cond.instantiable "CellForge" 19 ∈ cfB := cf_in 192 (by decide +kernel) rfl
theorem wv_1970 : Cond.instantiable "CellForgeModel" 99 ∈ cfB := cf_in 1970 (by decide +kernel) rfl
/-! What holds at the law's entry. -/
theorem lc_K {s : State} {args : Array Value} (hts : ∀ w ∈ cfB, w.before args s = true) : ∃ (D : va_G) (K : Nat → ClassId), va_K D vwCl (cfT K) s := by
  obtain ⟨c0, i0, hk0⟩ := u_known (C := RF) (T := TF) (N := 19) (n := 19) hts inF (hts _ wv_192)
  obtain ⟨c1, i1, hk1⟩ := u_known (C := RTx) (T := TTx) (N := 7) (n := 7) hts inTx (hts _ wv_200)
  obtain ⟨c2, i2, hk2⟩ := u_known (C := RNl) (T := TNl) (N := 17) (n := 17) hts inNl (hts _ wv_478)
  obtain ⟨c3, i3, hk3⟩ := u_known (C := RGr) (T := TGr) (N := 10) (n := 10) hts inGr (hts _ wv_541)
  obtain ⟨c4, i4, hk4⟩ := u_known (C := RFu) (T := TFu) (N := 5) (n := 5) hts inFu (hts _ wv_235)
  obtain ⟨c5, i5, hk5⟩ := u_known (C := RCu) (T := TCu) (N := 6) (n := 6) hts inCu (hts _ wv_259)
  obtain ⟨c6, i6, hk6⟩ := u_known (C := RCo) (T := TCo) (N := 5) (n := 5) hts inCo (hts _ wv_286)
  obtain ⟨c7, i7, hk7⟩ := u_known (C := RRe) (T := TRe) (N := 12) (n := 12) hts inRe (hts _ wv_315)
  obtain ⟨c8, i8, hk8⟩ := u_known (C := RCv) (T := TCv) (N := 7) (n := 7) hts inCv (hts _ wv_364)
  obtain ⟨c9, i9, hk9⟩ := u_known (C := RMp) (T := TMp) (N := 7) (n := 7) hts inMp (hts _ wv_397)
  obtain ⟨c10, i10, hk10⟩ := u_known (C := RSc) (T := TSc) (N := 2) (n := 2) hts inSc (hts _ wv_430)
  obtain ⟨c11, i11, hk11⟩ := u_known (C := RLi) (T := TLi) (N := 12) (n := 12) hts inLi (hts _ wv_605)
  obtain ⟨c12, i12, hk12⟩ := u_known (C := RM) (T := TM) (N := 99) (n := 99) hts inM (hts _ wv_1970)
  obtain ⟨c13, i13, hk13⟩ := u_known (C := RSB) (T := TSB) (N := 4) (n := 4) hts inSB (hts _ wv_436)
  obtain ⟨a0, ha0, hb0⟩ := cf_arr (ty := .int) (fun _ h => h) (hts _ wv_233)
  obtain ⟨a1, ha1, hb1⟩ := cf_arr (ty := .long) (fun _ h => h) (hts _ wv_257)
  obtain ⟨a2, ha2, hb2⟩ := cf_arr (ty := .byte) (fun _ h => h) (hts _ wv_232)
  obtain ⟨a3, ha3, hb3⟩ := cf_arr (ty := .boolean) (fun _ h => h) (hts _ wv_362)
  refine ⟨(fun k => ([c0, c1, c2, c3, c4, c5, c6, c7, c8, c9, c10, c11, c12, c13] : List ClassId).getD k c0, fun k => ([i0, i1, i2, i3, i4, i5, i6, i7, i8, i9, i10, i11, i12, i13] : List (Nat → Nat)).getD k i0), fun k => ([a0, a1, a2, a3] : List ClassId).getD k a0, ?_, ?_⟩
  · intro k q hq
    match k, hq with
    | 0, hq => cases hq; exact hk0
    | 1, hq => cases hq; exact hk1
    | 2, hq => cases hq; exact hk2
    | 3, hq => cases hq; exact hk3
    | 4, hq => cases hq; exact hk4
    | 5, hq => cases hq; exact hk5
    | 6, hq => cases hq; exact hk6
    | 7, hq => cases hq; exact hk7
    | 8, hq => cases hq; exact hk8
    | 9, hq => cases hq; exact hk9
    | 10, hq => cases hq; exact hk10
    | 11, hq => cases hq; exact hk11
    | 12, hq => cases hq; exact hk12
    | 13, hq => cases hq; exact hk13
    | k + 14, hq => exact absurd hq (by simp [vwCl])
  · intro k q hq
    match k, hq with
    | 0, hq => cases hq; exact ⟨ha0, hb0⟩
    | 1, hq => cases hq; exact ⟨ha1, hb1⟩
    | 2, hq => cases hq; exact ⟨ha2, hb2⟩
    | 3, hq => cases hq; exact ⟨ha3, hb3⟩
    | k + 4, hq => exact absurd hq (by simp [cfT])
theorem lc_tab {w : Cond} (h : cf_soft w = true) : w.onTables = true := by
  unfold cf_soft at h
  split at h
  · rfl
  · rfl
  · rfl
  · rfl
  · cases h
theorem lc_nc : ∀ q ∈ cfNC, (Cond.not (.castable q.1 q.2)) ∈ flatC (Jvm.Cond.and given_1 narrow_1) := by decide +kernel
theorem lc_TI {s : State} {b : Nat} {A : Nat → Prop} {C n : String} {f : Nat → Int32} (hA : ∀ a : Nat, a < s.heap.size → ¬ A a) (hl : (Cond.laysStatic C n "[I").before #[Value.ref b] s = true) (hini : (Cond.initialized C).before #[Value.ref b] s = true) (harr : (Cond.arrayOf (.static C n "[I") .int).before #[Value.ref b] s = true) (hlen : (Cond.eq (.length (.static C n "[I")) (.int 5)).before #[Value.ref b] s = true) (hel : ∀ j : Nat, j < 5 → (Cond.eq (.elem (.static C n "[I") (.int (Int32.ofNat j))) (.int (f j))).before #[Value.ref b] s = true) : cf_TI C n 5 f A s s.heap := by
  obtain ⟨t, h1, h2⟩ := va_Tof (tm := .static C n "[I") (ty := .int) (N := 5) (f := fun j => .int (f j)) (by decide) harr (va_eqt hlen) (fun j hj => va_eqt (hel j hj)) hA
  exact ⟨t, va_Zref hl hini h1 hA, h2⟩
theorem lc_E {s : State} {b : Nat} {D : va_G} {K : Nat → ClassId} {A : Nat → Prop} (hts : ∀ w ∈ lw_tbl, w.before #[Value.ref b] s = true) (hgv : (Jvm.Cond.and given_1 narrow_1).before #[Value.ref b] s = true) (hA : ∀ a : Nat, a < s.heap.size → ¬ A a) (hK : va_K D vwCl (cfT K) s) : cf_E D K A s s.heap := by
  have hs := flat_of_before _ hgv
  refine ⟨hK, ?_, ?_, ⟨?_, ?_, ?_, ?_⟩, ?_, ?_, ?_⟩
  · intro w hw
    have h2 : cf_soft w = true := List.all_eq_true.mp cfNW_soft w hw
    rw [cfNW_in] at hw
    obtain ⟨i, -, hi⟩ := List.mem_filterMap.mp hw
    exact va_Nw.of (lc_tab h2) (hts w (List.mem_of_getElem? hi))
  · intro q hq
    exact va_Nc.of (hs _ (lc_nc q hq))
  · exact va_Zqof (hts _ (List.mem_of_getElem? (i := 892) (by decide +kernel))) (hts _ (List.mem_of_getElem? (i := 174) (by decide +kernel))) (hs _ (by decide +kernel)) hA
  · exact va_Zqof (hts _ (List.mem_of_getElem? (i := 894) (by decide +kernel))) (hts _ (List.mem_of_getElem? (i := 174) (by decide +kernel))) (hs _ (by decide +kernel)) hA
  · exact cf_L.of (hts _ (List.mem_of_getElem? (i := 892) (by decide +kernel))) hA
  · exact cf_L.of (hts _ (List.mem_of_getElem? (i := 894) (by decide +kernel))) hA
  · refine lc_TI hA (hts _ (List.mem_of_getElem? (i := 322) (by decide +kernel))) (hts _ (List.mem_of_getElem? (i := 162) (by decide +kernel))) (hs _ (by decide +kernel)) (hs _ (by decide +kernel)) ?_
    intro j hj
    match j, hj with
    | 0, _ => exact hs _ (by decide +kernel)
    | 1, _ => exact hs _ (by decide +kernel)
    | 2, _ => exact hs _ (by decide +kernel)
    | 3, _ => exact hs _ (by decide +kernel)
    | 4, _ => exact hs _ (by decide +kernel)
    | j + 5, hj => exact absurd hj (by omega)
  · refine lc_TI hA (hts _ (List.mem_of_getElem? (i := 324) (by decide +kernel))) (hts _ (List.mem_of_getElem? (i := 161) (by decide +kernel))) (hs _ (by decide +kernel)) (hs _ (by decide +kernel)) ?_
    intro j hj
    match j, hj with
    | 0, _ => exact hs _ (by decide +kernel)
    | 1, _ => exact hs _ (by decide +kernel)
    | 2, _ => exact hs _ (by decide +kernel)
    | 3, _ => exact hs _ (by decide +kernel)
    | 4, _ => exact hs _ (by decide +kernel)
    | j + 5, hj => exact absurd hj (by omega)
  · exact va_Zof (hts _ (List.mem_of_getElem? (i := 445) (by decide +kernel))) (hts _ (List.mem_of_getElem? (i := 168) (by decide +kernel))) (va_eqi (hs _ (by decide +kernel))) hA
