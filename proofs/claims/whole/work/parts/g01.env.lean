theorem wv_192 : Cond.instantiable "CellForge" 19 ∈ cfB := cf_in 192 (by decide +kernel) rfl
theorem wv_1970 : Cond.instantiable "CellForgeModel" 99 ∈ cfB := cf_in 1970 (by decide +kernel) rfl
theorem lc_TG {s : State} {b : Nat} {A : Nat → Prop} {C n d : String} {ty : FieldType} {N : Nat} {f : Nat → Value} (hN : N < 2 ^ 31) (hA : ∀ a : Nat, a < s.heap.size → ¬ A a) (hl : (Cond.laysStatic C n d).before #[Value.ref b] s = true) (hini : (Cond.initialized C).before #[Value.ref b] s = true) (harr : (Cond.arrayOf (.static C n d) ty).before #[Value.ref b] s = true) (hlen : (Cond.eq (.length (.static C n d)) (.int (Int32.ofNat N))).before #[Value.ref b] s = true) (hel : ∀ j : Nat, j < N → (Term.elem (.static C n d) (.int (Int32.ofNat j))).eval #[Value.ref b] s none [] s = some (f j)) : ∃ t : Nat, va_Z C n d (.ref t) A s s.heap ∧ va_T ty t N f A s s.heap := by
  obtain ⟨t, h1, h2⟩ := va_Tof (tm := .static C n d) (ty := ty) (N := N) (f := f) hN harr (va_eqt hlen) hel hA
  exact ⟨t, va_Zref hl hini h1 hA, h2⟩
theorem lc_S {s : State} {b : Nat} {A : Nat → Prop} {own tx : String} {k : Nat} {bs : List Int32} (hN : bs.length < 2 ^ 31) (hA : ∀ a : Nat, a < s.heap.size → ¬ A a) (hr : (Cond.stringRef own k tx).before #[Value.ref b] s = true) (hex : (Cond.exactly (.string own k) "java/lang/String").before #[Value.ref b] s = true) (hco : (Cond.eq (.field (.string own k) "java/lang/String" "coder" "B") (.int 0)).before #[Value.ref b] s = true) (har : (Cond.arrayOf (.field (.string own k) "java/lang/String" "value" "[B") .byte).before #[Value.ref b] s = true) (hle : (Cond.eq (.length (.field (.string own k) "java/lang/String" "value" "[B")) (.int (Int32.ofNat bs.length))).before #[Value.ref b] s = true)
    (hel : ∀ j : Nat, j < bs.length → (Cond.eq (.elem (.field (.string own k) "java/lang/String" "value" "[B") (.int (Int32.ofNat j))) (.int (bs.getD j 0))).before #[Value.ref b] s = true) : ∃ a t : Nat, vk_R own k tx a s ∧ va_O "java/lang/String" a A s s.heap ∧ va_OF "java/lang/String" "coder" "B" (.int 0) a A s s.heap ∧ va_OF "java/lang/String" "value" "[B" (.ref t) a A s s.heap ∧ va_T .byte t bs.length (fun j => .int (bs.getD j 0)) A s s.heap := by
  obtain ⟨a, c, cA, kA, q1, q2, q3, q4, q5, q6, -⟩ := Cond.exactly_spec (args := #[Value.ref b]) (first := s) (o := none) (s := s) (idx := []) (t := .string own k) (cls := "java/lang/String") hex
  obtain ⟨t, ht, hT⟩ := va_Tof (f := fun j => .int (bs.getD j 0)) (A := A) hN har (va_eqt hle) (fun j hj => va_eqt (hel j hj)) hA
  exact ⟨a, t, vk_R.of hr q1, va_Oof hex q1 hA, vk_OFof q1 (va_eqt hco) hA, vk_OFof q1 ht hA, hT⟩
theorem lc_tab {w : Cond} (h : cf_soft w = true) : w.onTables = true := by
  unfold cf_soft at h
  split at h
  · rfl
  · rfl
  · rfl
  · rfl
  · rfl
  · cases h
theorem lc_nc : ∀ q ∈ cfNC, (Cond.not (.castable q.1 q.2)) ∈ flatC (Jvm.Cond.and given_1 narrow_1) := by decide +kernel
theorem lc_a0 : ∀ j : Nat, j < 5 → (flatC (Jvm.Cond.and given_1 narrow_1))[7 + j]? = some (Cond.eq (.elem (.static "CellForge$Remaker" "POWERS" "[I") (.int (Int32.ofNat j))) (.int (cf_powers j))) := by decide +kernel
theorem lc_a1 : ∀ j : Nat, j < 5 → (flatC (Jvm.Cond.and given_1 narrow_1))[15 + j]? = some (Cond.eq (.elem (.static "CellForge$Cone" "PATTERNS" "[I") (.int (Int32.ofNat j))) (.int (cf_patterns j))) := by decide +kernel
theorem lc_a2 : ∀ j : Nat, j < 6 → (flatC (Jvm.Cond.and given_1 narrow_1))[30 + j]? = some (Cond.eq (.elem (.static "CellForge$Functions" "PATTERNS" "[J") (.int (Int32.ofNat j))) (.long (cf_fpats j))) := by decide +kernel
theorem lc_a3 : ∀ j : Nat, j < 100 → (flatC (Jvm.Cond.and given_1 narrow_1))[39 + j]? = some (Cond.eq (.elem (.static "java/lang/Integer" "DigitOnes" "[B") (.int (Int32.ofNat j))) (.int (cf_ones j))) := by decide +kernel
theorem lc_a4 : ∀ j : Nat, j < 100 → (flatC (Jvm.Cond.and given_1 narrow_1))[142 + j]? = some (Cond.eq (.elem (.static "java/lang/Integer" "DigitTens" "[B") (.int (Int32.ofNat j))) (.int (cf_tens j))) := by decide +kernel
theorem lc_s0 : ∀ j : Nat, j < 4 → (flatC (Jvm.Cond.and given_1 narrow_1))[324 + j]? = some (Cond.eq (.elem (.field (.string "CellForge$Library" 57) "java/lang/String" "value" "[B") (.int (Int32.ofNat j))) (.int (([46, 101, 110, 100] : List Int32).getD j 0))) := by decide +kernel
theorem lc_s1 : ∀ j : Nat, j < 4 → (flatC (Jvm.Cond.and given_1 narrow_1))[332 + j]? = some (Cond.eq (.elem (.field (.string "CellForge$Library" 72) "java/lang/String" "value" "[B") (.int (Int32.ofNat j))) (.int (([99, 101, 108, 108] : List Int32).getD j 0))) := by decide +kernel
theorem lc_s2 : ∀ j : Nat, j < 7 → (flatC (Jvm.Cond.and given_1 narrow_1))[341 + j]? = some (Cond.eq (.elem (.field (.string "CellForge$Netlist" 112) "java/lang/String" "value" "[B") (.int (Int32.ofNat j))) (.int (([46, 105, 110, 112, 117, 116, 115] : List Int32).getD j 0))) := by decide +kernel
theorem lc_s3 : ∀ j : Nat, j < 8 → (flatC (Jvm.Cond.and given_1 narrow_1))[354 + j]? = some (Cond.eq (.elem (.field (.string "CellForge$Netlist" 122) "java/lang/String" "value" "[B") (.int (Int32.ofNat j))) (.int (([46, 111, 117, 116, 112, 117, 116, 115] : List Int32).getD j 0))) := by decide +kernel
theorem lc_s4 : ∀ j : Nat, j < 4 → (flatC (Jvm.Cond.and given_1 narrow_1))[369 + j]? = some (Cond.eq (.elem (.field (.string "CellForge$Netlist" 89) "java/lang/String" "value" "[B") (.int (Int32.ofNat j))) (.int (([46, 101, 110, 100] : List Int32).getD j 0))) := by decide +kernel
theorem lc_s5 : ∀ j : Nat, j < 6 → (flatC (Jvm.Cond.and given_1 narrow_1))[381 + j]? = some (Cond.eq (.elem (.field (.string "CellForge$Netlist" 104) "java/lang/String" "value" "[B") (.int (Int32.ofNat j))) (.int (([46, 110, 97, 109, 101, 115] : List Int32).getD j 0))) := by decide +kernel
theorem lc_s6 : ∀ j : Nat, j < 7 → (flatC (Jvm.Cond.and given_1 narrow_1))[550 + j]? = some (Cond.eq (.elem (.field (.string "CellForge$Script" 30) "java/lang/String" "value" "[B") (.int (Int32.ofNat j))) (.int (([46, 105, 110, 112, 117, 116, 115] : List Int32).getD j 0))) := by decide +kernel
theorem lc_s7 : ∀ j : Nat, j < 9 → (flatC (Jvm.Cond.and given_1 narrow_1))[573 + j]? = some (Cond.eq (.elem (.field (.string "CellForge$Script" 50) "java/lang/String" "value" "[B") (.int (Int32.ofNat j))) (.int (([10, 46, 111, 117, 116, 112, 117, 116, 115] : List Int32).getD j 0))) := by decide +kernel
theorem lc_s8 : ∀ j : Nat, j < 6 → (flatC (Jvm.Cond.and given_1 narrow_1))[599 + j]? = some (Cond.eq (.elem (.field (.string "CellForge$Cover" 142) "java/lang/String" "value" "[B") (.int (Int32.ofNat j))) (.int (([46, 110, 97, 109, 101, 115] : List Int32).getD j 0))) := by decide +kernel
theorem lc_s9 : ∀ j : Nat, j < 3 → (flatC (Jvm.Cond.and given_1 narrow_1))[623 + j]? = some (Cond.eq (.elem (.field (.string "CellForge$Script" 67) "java/lang/String" "value" "[B") (.int (Int32.ofNat j))) (.int (([32, 110, 95] : List Int32).getD j 0))) := by decide +kernel
theorem lc_s10 : ∀ j : Nat, j < 3 → (flatC (Jvm.Cond.and given_1 narrow_1))[645 + j]? = some (Cond.eq (.elem (.field (.string "CellForge$Script" 69) "java/lang/String" "value" "[B") (.int (Int32.ofNat j))) (.int (([32, 109, 95] : List Int32).getD j 0))) := by decide +kernel
theorem lc_s11 : ∀ j : Nat, j < 3 → (flatC (Jvm.Cond.and given_1 narrow_1))[668 + j]? = some (Cond.eq (.elem (.field (.string "CellForge$Cover" 168) "java/lang/String" "value" "[B") (.int (Int32.ofNat j))) (.int (([32, 49, 10] : List Int32).getD j 0))) := by decide +kernel
theorem lc_s12 : ∀ j : Nat, j < 6 → (flatC (Jvm.Cond.and given_1 narrow_1))[692 + j]? = some (Cond.eq (.elem (.field (.string "CellForge$Script" 74) "java/lang/String" "value" "[B") (.int (Int32.ofNat j))) (.int (([46, 110, 97, 109, 101, 115] : List Int32).getD j 0))) := by decide +kernel
theorem lc_s13 : ∀ j : Nat, j < 4 → (flatC (Jvm.Cond.and given_1 narrow_1))[720 + j]? = some (Cond.eq (.elem (.field (.string "CellForge$Script" 76) "java/lang/String" "value" "[B") (.int (Int32.ofNat j))) (.int (([48, 32, 49, 10] : List Int32).getD j 0))) := by decide +kernel
theorem lc_s14 : ∀ j : Nat, j < 4 → (flatC (Jvm.Cond.and given_1 narrow_1))[747 + j]? = some (Cond.eq (.elem (.field (.string "CellForge$Script" 78) "java/lang/String" "value" "[B") (.int (Int32.ofNat j))) (.int (([49, 32, 49, 10] : List Int32).getD j 0))) := by decide +kernel
theorem lc_s15 : ∀ j : Nat, j < 2 → (flatC (Jvm.Cond.and given_1 narrow_1))[775 + j]? = some (Cond.eq (.elem (.field (.string "CellForge$Script" 80) "java/lang/String" "value" "[B") (.int (Int32.ofNat j))) (.int (([49, 10] : List Int32).getD j 0))) := by decide +kernel
theorem lc_s16 : ∀ j : Nat, j < 5 → (flatC (Jvm.Cond.and given_1 narrow_1))[802 + j]? = some (Cond.eq (.elem (.field (.string "CellForge$Script" 82) "java/lang/String" "value" "[B") (.int (Int32.ofNat j))) (.int (([46, 101, 110, 100, 10] : List Int32).getD j 0))) := by decide +kernel
theorem lc_s17 : ∀ j : Nat, j < 5 → (flatC (Jvm.Cond.and given_1 narrow_1))[833 + j]? = some (Cond.eq (.elem (.field (.string "CellForge$Mapping" 178) "java/lang/String" "value" "[B") (.int (Int32.ofNat j))) (.int (([46, 103, 97, 116, 101] : List Int32).getD j 0))) := by decide +kernel
set_option maxHeartbeats 4000000 in
theorem lc_KE {s : State} {b : Nat} {A : Nat → Prop} (hts0 : ∀ w ∈ lw_tbl, w.before #[Value.ref b] s = true) (hgv : (Jvm.Cond.and given_1 narrow_1).before #[Value.ref b] s = true) (hA : ∀ a : Nat, a < s.heap.size → ¬ A a) : ∃ (D : va_G) (K : Nat → ClassId), cf_E D K A s s.heap := by
  have hs := flat_of_before _ hgv
  have hts : ∀ w ∈ cfB, w.before #[Value.ref b] s = true := fun w hw => hts0 w (List.mem_filter.mp hw).1
  obtain ⟨c0, i0, hk0⟩ := u_known (C := RF) (T := TF) (N := 19) (n := 19) hts inF (hts _ wv_192)
  obtain ⟨c1, i1, hk1⟩ := u_known (C := RTx) (T := TTx) (N := 7) (n := 7) hts inTx (hts _ wv_200)
  obtain ⟨c2, i2, hk2⟩ := u_known (C := RNl) (T := TNl) (N := 17) (n := 17) hts inNl (hts _ wv_478)
  obtain ⟨c3, i3, hk3⟩ := u_known (C := RGr) (T := TGr) (N := 10) (n := 10) hts inGr (hts _ wv_541)
  obtain ⟨c4, i4, hk4⟩ := u_known (C := RFu) (T := TFu) (N := 5) (n := 5) hts inFu (hts _ wv_235)
  obtain ⟨c5, i5, hk5⟩ := u_known (C := RCu) (T := TCu) (N := 6) (n := 6) hts inCu (hts _ wv_259)
  obtain ⟨c6, i6, hk6⟩ := u_known (C := RCo) (T := TCo) (N := 5) (n := 5) hts inCo (hts _ wv_286)
  obtain ⟨c7, i7, hk7⟩ := u_known (C := RRe) (T := TRe) (N := 12) (n := 12) hts inRe (hts _ wv_315)
  obtain ⟨c8, i8, hk8⟩ := u_known (C := RCv) (T := TCv) (N := 7) (n := 7) hts inCv (hts _ wv_364)
  obtain ⟨c9, i9, hk9⟩ := u_known (C := RMp) (T := TMp) (N := 7) (n := 7) hts inMp (hts _ wv_397)
  obtain ⟨c10, i10, hk10⟩ := u_known (C := RSc) (T := TSc) (N := 2) (n := 2) hts inSc (hts _ wv_430)
  obtain ⟨c11, i11, hk11⟩ := u_known (C := RLi) (T := TLi) (N := 12) (n := 12) hts inLi (hts _ wv_605)
  obtain ⟨c12, i12, hk12⟩ := u_known (C := RM) (T := TM) (N := 99) (n := 99) hts inM (hts _ wv_1970)
  obtain ⟨c13, i13, hk13⟩ := u_known (C := RSB) (T := TSB) (N := 4) (n := 4) hts inSB (hts _ wv_436)
  obtain ⟨a0, ha0, hb0⟩ := cf_arr (ty := .int) (fun _ h => h) (hts _ wv_233)
  obtain ⟨a1, ha1, hb1⟩ := cf_arr (ty := .long) (fun _ h => h) (hts _ wv_257)
  obtain ⟨a2, ha2, hb2⟩ := cf_arr (ty := .byte) (fun _ h => h) (hts _ wv_232)
  obtain ⟨a3, ha3, hb3⟩ := cf_arr (ty := .boolean) (fun _ h => h) (hts _ wv_362)
  obtain ⟨x0, y0, hS0⟩ := lc_S (own := "CellForge$Library") (k := 57) (tx := ".end") (bs := [46, 101, 110, 100]) (by decide) hA (hts0 _ (List.mem_of_getElem? (i := 747) (by decide +kernel))) (hs _ (List.mem_of_getElem? (i := 320) (by decide +kernel))) (hs _ (List.mem_of_getElem? (i := 321) (by decide +kernel))) (hs _ (List.mem_of_getElem? (i := 322) (by decide +kernel))) (hs _ (List.mem_of_getElem? (i := 323) (by decide +kernel))) (fun j hj => hs _ (List.mem_of_getElem? (lc_s0 j hj)))
  obtain ⟨x1, y1, hS1⟩ := lc_S (own := "CellForge$Library") (k := 72) (tx := "cell") (bs := [99, 101, 108, 108]) (by decide) hA (hts0 _ (List.mem_of_getElem? (i := 807) (by decide +kernel))) (hs _ (List.mem_of_getElem? (i := 328) (by decide +kernel))) (hs _ (List.mem_of_getElem? (i := 329) (by decide +kernel))) (hs _ (List.mem_of_getElem? (i := 330) (by decide +kernel))) (hs _ (List.mem_of_getElem? (i := 331) (by decide +kernel))) (fun j hj => hs _ (List.mem_of_getElem? (lc_s1 j hj)))
  obtain ⟨x2, y2, hS2⟩ := lc_S (own := "CellForge$Netlist") (k := 112) (tx := ".inputs") (bs := [46, 105, 110, 112, 117, 116, 115]) (by decide) hA (hts0 _ (List.mem_of_getElem? (i := 983) (by decide +kernel))) (hs _ (List.mem_of_getElem? (i := 337) (by decide +kernel))) (hs _ (List.mem_of_getElem? (i := 338) (by decide +kernel))) (hs _ (List.mem_of_getElem? (i := 339) (by decide +kernel))) (hs _ (List.mem_of_getElem? (i := 340) (by decide +kernel))) (fun j hj => hs _ (List.mem_of_getElem? (lc_s2 j hj)))
  obtain ⟨x3, y3, hS3⟩ := lc_S (own := "CellForge$Netlist") (k := 122) (tx := ".outputs") (bs := [46, 111, 117, 116, 112, 117, 116, 115]) (by decide) hA (hts0 _ (List.mem_of_getElem? (i := 996) (by decide +kernel))) (hs _ (List.mem_of_getElem? (i := 350) (by decide +kernel))) (hs _ (List.mem_of_getElem? (i := 351) (by decide +kernel))) (hs _ (List.mem_of_getElem? (i := 352) (by decide +kernel))) (hs _ (List.mem_of_getElem? (i := 353) (by decide +kernel))) (fun j hj => hs _ (List.mem_of_getElem? (lc_s3 j hj)))
  obtain ⟨x4, y4, hS4⟩ := lc_S (own := "CellForge$Netlist") (k := 89) (tx := ".end") (bs := [46, 101, 110, 100]) (by decide) hA (hts0 _ (List.mem_of_getElem? (i := 997) (by decide +kernel))) (hs _ (List.mem_of_getElem? (i := 365) (by decide +kernel))) (hs _ (List.mem_of_getElem? (i := 366) (by decide +kernel))) (hs _ (List.mem_of_getElem? (i := 367) (by decide +kernel))) (hs _ (List.mem_of_getElem? (i := 368) (by decide +kernel))) (fun j hj => hs _ (List.mem_of_getElem? (lc_s4 j hj)))
  obtain ⟨x5, y5, hS5⟩ := lc_S (own := "CellForge$Netlist") (k := 104) (tx := ".names") (bs := [46, 110, 97, 109, 101, 115]) (by decide) hA (hts0 _ (List.mem_of_getElem? (i := 998) (by decide +kernel))) (hs _ (List.mem_of_getElem? (i := 377) (by decide +kernel))) (hs _ (List.mem_of_getElem? (i := 378) (by decide +kernel))) (hs _ (List.mem_of_getElem? (i := 379) (by decide +kernel))) (hs _ (List.mem_of_getElem? (i := 380) (by decide +kernel))) (fun j hj => hs _ (List.mem_of_getElem? (lc_s5 j hj)))
  obtain ⟨x6, y6, hS6⟩ := lc_S (own := "CellForge$Script") (k := 30) (tx := ".inputs") (bs := [46, 105, 110, 112, 117, 116, 115]) (by decide) hA (hts0 _ (List.mem_of_getElem? (i := 1792) (by decide +kernel))) (hs _ (List.mem_of_getElem? (i := 546) (by decide +kernel))) (hs _ (List.mem_of_getElem? (i := 547) (by decide +kernel))) (hs _ (List.mem_of_getElem? (i := 548) (by decide +kernel))) (hs _ (List.mem_of_getElem? (i := 549) (by decide +kernel))) (fun j hj => hs _ (List.mem_of_getElem? (lc_s6 j hj)))
  obtain ⟨x7, y7, hS7⟩ := lc_S (own := "CellForge$Script") (k := 50) (tx := "\n.outputs") (bs := [10, 46, 111, 117, 116, 112, 117, 116, 115]) (by decide) hA (hts0 _ (List.mem_of_getElem? (i := 1812) (by decide +kernel))) (hs _ (List.mem_of_getElem? (i := 569) (by decide +kernel))) (hs _ (List.mem_of_getElem? (i := 570) (by decide +kernel))) (hs _ (List.mem_of_getElem? (i := 571) (by decide +kernel))) (hs _ (List.mem_of_getElem? (i := 572) (by decide +kernel))) (fun j hj => hs _ (List.mem_of_getElem? (lc_s7 j hj)))
  obtain ⟨x8, y8, hS8⟩ := lc_S (own := "CellForge$Cover") (k := 142) (tx := ".names") (bs := [46, 110, 97, 109, 101, 115]) (by decide) hA (hts0 _ (List.mem_of_getElem? (i := 1814) (by decide +kernel))) (hs _ (List.mem_of_getElem? (i := 595) (by decide +kernel))) (hs _ (List.mem_of_getElem? (i := 596) (by decide +kernel))) (hs _ (List.mem_of_getElem? (i := 597) (by decide +kernel))) (hs _ (List.mem_of_getElem? (i := 598) (by decide +kernel))) (fun j hj => hs _ (List.mem_of_getElem? (lc_s8 j hj)))
  obtain ⟨x9, y9, hS9⟩ := lc_S (own := "CellForge$Script") (k := 67) (tx := " n_") (bs := [32, 110, 95]) (by decide) hA (hts0 _ (List.mem_of_getElem? (i := 1824) (by decide +kernel))) (hs _ (List.mem_of_getElem? (i := 619) (by decide +kernel))) (hs _ (List.mem_of_getElem? (i := 620) (by decide +kernel))) (hs _ (List.mem_of_getElem? (i := 621) (by decide +kernel))) (hs _ (List.mem_of_getElem? (i := 622) (by decide +kernel))) (fun j hj => hs _ (List.mem_of_getElem? (lc_s9 j hj)))
  obtain ⟨x10, y10, hS10⟩ := lc_S (own := "CellForge$Script") (k := 69) (tx := " m_") (bs := [32, 109, 95]) (by decide) hA (hts0 _ (List.mem_of_getElem? (i := 1825) (by decide +kernel))) (hs _ (List.mem_of_getElem? (i := 641) (by decide +kernel))) (hs _ (List.mem_of_getElem? (i := 642) (by decide +kernel))) (hs _ (List.mem_of_getElem? (i := 643) (by decide +kernel))) (hs _ (List.mem_of_getElem? (i := 644) (by decide +kernel))) (fun j hj => hs _ (List.mem_of_getElem? (lc_s10 j hj)))
  obtain ⟨x11, y11, hS11⟩ := lc_S (own := "CellForge$Cover") (k := 168) (tx := " 1\n") (bs := [32, 49, 10]) (by decide) hA (hts0 _ (List.mem_of_getElem? (i := 1831) (by decide +kernel))) (hs _ (List.mem_of_getElem? (i := 664) (by decide +kernel))) (hs _ (List.mem_of_getElem? (i := 665) (by decide +kernel))) (hs _ (List.mem_of_getElem? (i := 666) (by decide +kernel))) (hs _ (List.mem_of_getElem? (i := 667) (by decide +kernel))) (fun j hj => hs _ (List.mem_of_getElem? (lc_s11 j hj)))
  obtain ⟨x12, y12, hS12⟩ := lc_S (own := "CellForge$Script") (k := 74) (tx := ".names") (bs := [46, 110, 97, 109, 101, 115]) (by decide) hA (hts0 _ (List.mem_of_getElem? (i := 1836) (by decide +kernel))) (hs _ (List.mem_of_getElem? (i := 688) (by decide +kernel))) (hs _ (List.mem_of_getElem? (i := 689) (by decide +kernel))) (hs _ (List.mem_of_getElem? (i := 690) (by decide +kernel))) (hs _ (List.mem_of_getElem? (i := 691) (by decide +kernel))) (fun j hj => hs _ (List.mem_of_getElem? (lc_s12 j hj)))
  obtain ⟨x13, y13, hS13⟩ := lc_S (own := "CellForge$Script") (k := 76) (tx := "0 1\n") (bs := [48, 32, 49, 10]) (by decide) hA (hts0 _ (List.mem_of_getElem? (i := 1837) (by decide +kernel))) (hs _ (List.mem_of_getElem? (i := 716) (by decide +kernel))) (hs _ (List.mem_of_getElem? (i := 717) (by decide +kernel))) (hs _ (List.mem_of_getElem? (i := 718) (by decide +kernel))) (hs _ (List.mem_of_getElem? (i := 719) (by decide +kernel))) (fun j hj => hs _ (List.mem_of_getElem? (lc_s13 j hj)))
  obtain ⟨x14, y14, hS14⟩ := lc_S (own := "CellForge$Script") (k := 78) (tx := "1 1\n") (bs := [49, 32, 49, 10]) (by decide) hA (hts0 _ (List.mem_of_getElem? (i := 1838) (by decide +kernel))) (hs _ (List.mem_of_getElem? (i := 743) (by decide +kernel))) (hs _ (List.mem_of_getElem? (i := 744) (by decide +kernel))) (hs _ (List.mem_of_getElem? (i := 745) (by decide +kernel))) (hs _ (List.mem_of_getElem? (i := 746) (by decide +kernel))) (fun j hj => hs _ (List.mem_of_getElem? (lc_s14 j hj)))
  obtain ⟨x15, y15, hS15⟩ := lc_S (own := "CellForge$Script") (k := 80) (tx := "1\n") (bs := [49, 10]) (by decide) hA (hts0 _ (List.mem_of_getElem? (i := 1839) (by decide +kernel))) (hs _ (List.mem_of_getElem? (i := 771) (by decide +kernel))) (hs _ (List.mem_of_getElem? (i := 772) (by decide +kernel))) (hs _ (List.mem_of_getElem? (i := 773) (by decide +kernel))) (hs _ (List.mem_of_getElem? (i := 774) (by decide +kernel))) (fun j hj => hs _ (List.mem_of_getElem? (lc_s15 j hj)))
  obtain ⟨x16, y16, hS16⟩ := lc_S (own := "CellForge$Script") (k := 82) (tx := ".end\n") (bs := [46, 101, 110, 100, 10]) (by decide) hA (hts0 _ (List.mem_of_getElem? (i := 1844) (by decide +kernel))) (hs _ (List.mem_of_getElem? (i := 798) (by decide +kernel))) (hs _ (List.mem_of_getElem? (i := 799) (by decide +kernel))) (hs _ (List.mem_of_getElem? (i := 800) (by decide +kernel))) (hs _ (List.mem_of_getElem? (i := 801) (by decide +kernel))) (fun j hj => hs _ (List.mem_of_getElem? (lc_s16 j hj)))
  obtain ⟨x17, y17, hS17⟩ := lc_S (own := "CellForge$Mapping") (k := 178) (tx := ".gate") (bs := [46, 103, 97, 116, 101]) (by decide) hA (hts0 _ (List.mem_of_getElem? (i := 1962) (by decide +kernel))) (hs _ (List.mem_of_getElem? (i := 829) (by decide +kernel))) (hs _ (List.mem_of_getElem? (i := 830) (by decide +kernel))) (hs _ (List.mem_of_getElem? (i := 831) (by decide +kernel))) (hs _ (List.mem_of_getElem? (i := 832) (by decide +kernel))) (fun j hj => hs _ (List.mem_of_getElem? (lc_s17 j hj)))
  refine ⟨(fun k => ([c0, c1, c2, c3, c4, c5, c6, c7, c8, c9, c10, c11, c12, c13] : List ClassId).getD k c0, fun k => ([i0, i1, i2, i3, i4, i5, i6, i7, i8, i9, i10, i11, i12, i13] : List (Nat → Nat)).getD k i0), fun k => ([a0, a1, a2, a3] : List ClassId).getD k (([x0, x1, x2, x3, x4, x5, x6, x7, x8, x9, x10, x11, x12, x13, x14, x15, x16, x17] : List Nat).getD (k - 100) (([y0, y1, y2, y3, y4, y5, y6, y7, y8, y9, y10, y11, y12, y13, y14, y15, y16, y17] : List Nat).getD (k - 200) 0)), ⟨?_, ?_⟩, ?_, ?_, ⟨?_, ?_, ?_, ?_⟩, ?_, ?_, ?_, ?_, ?_, ?_, ?_, ?_⟩
  · intro k q hq
    match k, hq with
    | 0, hq => cases hq; exact hk0
    | 1, hq => cases hq; exact hk1
    | 2, hq => cases hq; exact hk2
    | 3, hq => cases hq; exact hk3
    | 4, hq => cases hq; exact hk4
    | 5, hq => cases hq; exact hk5
    | 6, hq => cases hq; exact hk6
    | 7, hq => cases hq; exact hk7
    | 8, hq => cases hq; exact hk8
    | 9, hq => cases hq; exact hk9
    | 10, hq => cases hq; exact hk10
    | 11, hq => cases hq; exact hk11
    | 12, hq => cases hq; exact hk12
    | 13, hq => cases hq; exact hk13
    | k + 14, hq => exact absurd hq (by simp [vwCl])
  · intro k q hq
    match k, hq with
    | 0, hq => cases hq; exact ⟨ha0, hb0⟩
    | 1, hq => cases hq; exact ⟨ha1, hb1⟩
    | 2, hq => cases hq; exact ⟨ha2, hb2⟩
    | 3, hq => cases hq; exact ⟨ha3, hb3⟩
    | k + 4, hq => exact absurd hq (by simp [cfT])
  · intro w hw
    have h2 : cf_soft w = true := List.all_eq_true.mp cfNW_soft w hw
    rw [cfNW_in] at hw
    rcases List.mem_append.mp hw with hw | hw
    · obtain ⟨i, -, hi⟩ := List.mem_filterMap.mp hw
      exact va_Nw.of (lc_tab h2) (hts0 w (List.mem_of_getElem? hi))
    · refine va_Nw.of (A := #[Value.ref b]) (lc_tab h2) ?_
      rcases List.mem_cons.mp hw with rfl | hw
      · exact cf_selP (n := 4) (by decide) (hts0 _ (List.mem_of_getElem? (i := 436) (by decide +kernel))) (hts0 _ (List.mem_of_getElem? (i := 1566) (by decide +kernel))) (hts0 _ (List.mem_of_getElem? (i := 1567) (by decide +kernel))) (hts0 _ (List.mem_of_getElem? (i := 2790) (by decide +kernel)))
      rcases List.mem_cons.mp hw with rfl | hw
      · exact cf_selP (n := 4) (by decide) (hts0 _ (List.mem_of_getElem? (i := 436) (by decide +kernel))) (hts0 _ (List.mem_of_getElem? (i := 1570) (by decide +kernel))) (hts0 _ (List.mem_of_getElem? (i := 1571) (by decide +kernel))) (hts0 _ (List.mem_of_getElem? (i := 2791) (by decide +kernel)))
      rcases List.mem_cons.mp hw with rfl | hw
      · exact cf_selP (n := 4) (by decide) (hts0 _ (List.mem_of_getElem? (i := 436) (by decide +kernel))) (hts0 _ (List.mem_of_getElem? (i := 1612) (by decide +kernel))) (hts0 _ (List.mem_of_getElem? (i := 1613) (by decide +kernel))) (hts0 _ (List.mem_of_getElem? (i := 2792) (by decide +kernel)))
      rcases List.mem_cons.mp hw with rfl | hw
      · exact cf_selP (n := 4) (by decide) (hts0 _ (List.mem_of_getElem? (i := 436) (by decide +kernel))) (hts0 _ (List.mem_of_getElem? (i := 1616) (by decide +kernel))) (hts0 _ (List.mem_of_getElem? (i := 1617) (by decide +kernel))) (hts0 _ (List.mem_of_getElem? (i := 2793) (by decide +kernel)))
      · exact absurd hw List.not_mem_nil
  · intro q hq
    exact va_Nc.of (hs _ (lc_nc q hq))
  · exact va_Zqof (hts0 _ (List.mem_of_getElem? (i := 892) (by decide +kernel))) (hts0 _ (List.mem_of_getElem? (i := 174) (by decide +kernel))) (hs _ (List.mem_of_getElem? (i := 25) (by decide +kernel))) hA
  · exact va_Zqof (hts0 _ (List.mem_of_getElem? (i := 894) (by decide +kernel))) (hts0 _ (List.mem_of_getElem? (i := 174) (by decide +kernel))) (hs _ (List.mem_of_getElem? (i := 26) (by decide +kernel))) hA
  · exact cf_L.of (hts0 _ (List.mem_of_getElem? (i := 892) (by decide +kernel))) hA
  · exact cf_L.of (hts0 _ (List.mem_of_getElem? (i := 894) (by decide +kernel))) hA
  · exact lc_TG (N := 5) (by decide) hA (hts0 _ (List.mem_of_getElem? (i := 322) (by decide +kernel))) (hts0 _ (List.mem_of_getElem? (i := 162) (by decide +kernel))) (hs _ (List.mem_of_getElem? (i := 5) (by decide +kernel))) (hs _ (List.mem_of_getElem? (i := 6) (by decide +kernel))) (fun j hj => va_eqt (hs _ (List.mem_of_getElem? (lc_a0 j hj))))
  · exact lc_TG (N := 5) (by decide) hA (hts0 _ (List.mem_of_getElem? (i := 324) (by decide +kernel))) (hts0 _ (List.mem_of_getElem? (i := 161) (by decide +kernel))) (hs _ (List.mem_of_getElem? (i := 13) (by decide +kernel))) (hs _ (List.mem_of_getElem? (i := 14) (by decide +kernel))) (fun j hj => va_eqt (hs _ (List.mem_of_getElem? (lc_a1 j hj))))
  · exact va_Zof (hts0 _ (List.mem_of_getElem? (i := 445) (by decide +kernel))) (hts0 _ (List.mem_of_getElem? (i := 168) (by decide +kernel))) (va_eqi (hs _ (List.mem_of_getElem? (i := 20) (by decide +kernel)))) hA
  · intro q hq
    obtain ⟨i, hi⟩ := List.mem_iff_getElem?.mp hq
    match i, hi with
    | 0, hi => cases hi; exact hS0
    | 1, hi => cases hi; exact hS1
    | 2, hi => cases hi; exact hS2
    | 3, hi => cases hi; exact hS3
    | 4, hi => cases hi; exact hS4
    | 5, hi => cases hi; exact hS5
    | 6, hi => cases hi; exact hS6
    | 7, hi => cases hi; exact hS7
    | 8, hi => cases hi; exact hS8
    | 9, hi => cases hi; exact hS9
    | 10, hi => cases hi; exact hS10
    | 11, hi => cases hi; exact hS11
    | 12, hi => cases hi; exact hS12
    | 13, hi => cases hi; exact hS13
    | 14, hi => cases hi; exact hS14
    | 15, hi => cases hi; exact hS15
    | 16, hi => cases hi; exact hS16
    | 17, hi => cases hi; exact hS17
    | i + 18, hi => exact absurd hi (by simp [cfStr])
  · exact lc_TG (N := 6) (by decide) hA (hts0 _ (List.mem_of_getElem? (i := 1171) (by decide +kernel))) (hts0 _ (List.mem_of_getElem? (i := 159) (by decide +kernel))) (hs _ (List.mem_of_getElem? (i := 28) (by decide +kernel))) (hs _ (List.mem_of_getElem? (i := 29) (by decide +kernel))) (fun j hj => va_eqtl (hs _ (List.mem_of_getElem? (lc_a2 j hj))))
  · exact lc_TG (N := 100) (by decide) hA (hts0 _ (List.mem_of_getElem? (i := 1659) (by decide +kernel))) (hts0 _ (List.mem_of_getElem? (i := 186) (by decide +kernel))) (hs _ (List.mem_of_getElem? (i := 37) (by decide +kernel))) (hs _ (List.mem_of_getElem? (i := 38) (by decide +kernel))) (fun j hj => va_eqt (hs _ (List.mem_of_getElem? (lc_a3 j hj))))
  · exact lc_TG (N := 100) (by decide) hA (hts0 _ (List.mem_of_getElem? (i := 1661) (by decide +kernel))) (hts0 _ (List.mem_of_getElem? (i := 186) (by decide +kernel))) (hs _ (List.mem_of_getElem? (i := 140) (by decide +kernel))) (hs _ (List.mem_of_getElem? (i := 141) (by decide +kernel))) (fun j hj => va_eqt (hs _ (List.mem_of_getElem? (lc_a4 j hj))))
  · exact va_Zqof (hts0 _ (List.mem_of_getElem? (i := 784) (by decide +kernel))) (hts0 _ (List.mem_of_getElem? (i := 180) (by decide +kernel))) (hs _ (List.mem_of_getElem? (i := 21) (by decide +kernel))) hA
