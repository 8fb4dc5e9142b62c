theorem dL_law_1386 : decode code 1386 = .ok (.iinc 4 3, 3) := by decide +kernel
theorem dL_law_1389 : decode code 1389 = .ok (.goto (-1366), 3) := by decide +kernel
theorem dL_law_23 : decode code 23 = .ok (.iload 4, 2) := by decide +kernel
theorem dL_law_25 : decode code 25 = .ok (.aload_n 0, 1) := by decide +kernel
theorem dL_law_26 : decode code 26 = .ok (.arraylength, 1) := by decide +kernel
theorem dL_law_27 : decode code 27 = .ok (.iconst 3, 1) := by decide +kernel
theorem dL_law_28 : decode code 28 = .ok (.isub, 1) := by decide +kernel
theorem dL_law_29 : decode code 29 = .ok (.if_icmp .gt 1363, 3) := by decide +kernel
theorem dL_law_32 : decode code 32 = .ok (.aload_n 0, 1) := by decide +kernel
theorem dL_law_33 : decode code 33 = .ok (.iload 4, 2) := by decide +kernel
theorem dL_law_35 : decode code 35 = .ok (.iaload, 1) := by decide +kernel
theorem dL_law_36 : decode code 36 = .ok (.bipush 31, 2) := by decide +kernel
theorem dL_law_38 : decode code 38 = .ok (.iand, 1) := by decide +kernel
theorem dL_law_39 : decode code 39 = .ok (.tableswitch 1347 0 23 #[109, 165, 201, 245, 258, 314, 382, 438, 494, 538, 582, 626, 694, 762, 818, 874, 918, 986, 1042, 1055, 1123, 1167, 1223, 1291], 109) := by decide +kernel
theorem phCu_le {o : cf_O} (h : okO I_Cu o) : phCu o ≤ 262144 := by
  have h4 : (1024 : Int) ≤ (o.1 4).toInt ∧ (o.1 4).toInt ≤ 131072 := h.1 4
  have h5 : (1024 : Int) ≤ (o.1 5).toInt ∧ (o.1 5).toInt ≤ 131072 := h.1 5
  have n4 := tn_n (o.1 4)
  have n5 := tn_n (o.1 5)
  unfold phCu; omega
theorem phSB_le {o : cf_O} (h : okO I_SB o) : phSB o ≤ 400000 := by
  have h4 : (16 : Int) ≤ (o.1 0).toInt ∧ (o.1 0).toInt ≤ 400000 := h.1 0
  have n4 := tn_n (o.1 0)
  unfold phSB; omega
def bud (st : Nat → cf_O) : Nat := gC (phCu (st 3)) 262144 + gC (phSB (st 16)) 400000 + gC (phSB (st 17)) 400000
def buS (st : Nat → cf_O) : Nat := gS (phCu (st 3)) 262144 + gS (phSB (st 16)) 400000 + gS (phSB (st 17)) 400000
theorem xc_le (k : Int32) : xc k ≤ 1 := by unfold xc; split <;> omega
theorem nI_i {k : Nat} (h : k < 2147483648) : (nI k).toInt = (k : Int) := Int32.toInt_ofNat_of_lt h
theorem nI_3 {k : Nat} : nI k + 3 = nI (k + 3) := (Int32.ofNat_add k 3).symm
theorem vp_k {i L k : Nat} {q : Int32} (e : q.toInt = ((i + k : Nat) : Int)) (h : i + k < L) : vp_in q L := by
  have n := tn_n q
  intro z
  rcases z with z | z
  · have z := Int32.lt_iff_toInt_lt.mp z
    rw [show (0 : Int32).toInt = 0 from rfl] at z
    omega
  · omega
theorem nI_k {i k : Nat} (h : i ≤ 1536) (hk : k ≤ 2) : (nI i + nI k).toInt = ((i + k : Nat) : Int) := by
  rw [Int32.toInt_add, nI_i (by omega), nI_i (by omega), i_bm (by omega) (by omega)]; omega

theorem lq_back {p : Program} {e : Env} {s : State} {m : MethodId} {below : List Frame} {meth : Method} {c : Code} {l : Launch} {b : Nat} {Q : State → Prop} (hx : p.tables.exec = Jvm.exec) (hb : c.code = code) {i : Nat} {h : Nat → Nat} {hm o : Nat} {H : Heap} {locs : List Loc} {cells slots : Nat} {ls : Array Slot} (hl : lv_has ls 7 [(4, .int (nI i)), (0, .ref b), (1, .ref (h 0)), (2, .ref hm), (3, .ref o)]) (kk : ∀ ls : Array Slot, lv_has ls 7 [(4, .int (nI (i + 3))), (0, .ref b), (1, .ref (h 0)), (2, .ref hm), (3, .ref o)] → W p l e room_1 s m #[Value.ref b] below meth c H locs cells slots Q (F0 m 23 ls [])) : W p l e room_1 s m #[Value.ref b] below meth c H locs cells slots Q (F0 m 1386 ls []) := by
  refine lv_iinc (v := nI i + 3) (lv' := [(4, .int (nI i + 3)), (0, .ref b), (1, .ref (h 0)), (2, .ref hm), (3, .ref o)]) hx hb dL_law_1386 hl (k := 0) rfl rfl (by decide) rfl (fun ls hl => ?_)
  refine lv_goto (tgt := 23) hx hb dL_law_1389 (by decide) ?_
  rw [nI_3] at hl
  exact kk ls hl
set_option maxHeartbeats 4000000 in
set_option maxRecDepth 100000 in
theorem lq_loop {p : Program} {e : Env} {s : State} {m : MethodId} {below : List Frame} {meth : Method} {c : Code} {l : Launch} {D : va_G} {K : Nat → ClassId} {b L : Nat} {xs : Nat → Int32} {A : Nat → Prop} {Q : State → Prop} (C : lq_C p l s m c b L xs A D K) (hL : L ≤ 1536) (fin : ∀ (H : Heap) (locs : List Loc) (ls : Array Slot) (cells slots : Nat), va_S A s.heap H locs → cells ≤ room_1.cells → slots ≤ room_1.slots → W p l e room_1 s m #[Value.ref b] below meth c H locs cells slots Q (F0 m 1392 ls [])) : ∀ (n i : Nat) (h : Nat → Nat) (a : Nat → Nat → Nat) (st : Nat → cf_O) (hm : Nat) (am : Nat → Nat) (om : cf_O) (o : Nat) (g : Nat → Int64) (H : Heap) (locs : List Loc) (ls : Array Slot) (cells slots : Nat), L ≤ i + 3 * n + 2 → i ≤ 1536 → IC st → IM om → RA st om → cells + bud st + n ≤ room_1.cells → slots + buS st + 6 * n ≤ room_1.slots → va_P D vwCl ((List.range 20).flatMap (blk K h a st hm am om o g)) H → va_D A ((List.range 20).flatMap (blk K h a st hm am om o g)) → va_S A s.heap H locs → lv_has ls 7 [(4, .int (nI i)), (0, .ref b), (1, .ref (h 0)), (2, .ref hm), (3, .ref o)] → W p l e room_1 s m #[Value.ref b] below meth c H locs cells slots Q (F0 m 23 ls []) := by
  have C0 := C
  obtain ⟨hl9, hx, hb, hml, hown, hts, hE, hA, hX, hbl, hbA⟩ := C
  have hK := hE.k
  intro n
  induction n with
  | zero =>
    intro i h a st hm am om o g H locs ls cells slots hn hi HI HJ hR hcc hcs hP hD hS hl
    refine lv_iload hx hb dL_law_23 (lv_at hl 0 rfl) ?_
    refine lv_aload_n hx hb dL_law_25 rfl (lv_at hl 1 rfl) ?_
    refine va_slen hx hb hX hbl hbA hS dL_law_26 ?_
    refine lv_iconst (v := 3) hx hb dL_law_27 (by decide) ?_
    refine lv_isub hx hb dL_law_28 ?_
    refine lv_topi (fun x_1 ex_1 => ?_)
    have e1 : x_1.toInt = (L : Int) - 3 := by rw [ex_1, Int32.toInt_sub, show (Int32.ofNat L).toInt = (L : Int) from nI_i (by omega), show (3 : Int32).toInt = 3 from rfl, i_bm (by omega) (by omega)]
    have e2 := nI_i (k := i) (by omega)
    refine lv_icmp_gt (tgt := 1392) hx hb dL_law_29 (by decide) (fun _ => fin _ _ _ _ _ hS (by omega) (by omega)) (fun c9 => absurd (Int32.lt_iff_toInt_lt.mpr (by omega)) c9)
  | succ n ih =>
    intro i h a st hm am om o g H locs ls cells slots hn hi HI HJ hR hcc hcs hP hD hS hl
    refine lv_iload hx hb dL_law_23 (lv_at hl 0 rfl) ?_
    refine lv_aload_n hx hb dL_law_25 rfl (lv_at hl 1 rfl) ?_
    refine va_slen hx hb hX hbl hbA hS dL_law_26 ?_
    refine lv_iconst (v := 3) hx hb dL_law_27 (by decide) ?_
    refine lv_isub hx hb dL_law_28 ?_
    refine lv_topi (fun x_1 ex_1 => ?_)
    have e1 : x_1.toInt = (L : Int) - 3 := by rw [ex_1, Int32.toInt_sub, show (Int32.ofNat L).toInt = (L : Int) from nI_i (by omega), show (3 : Int32).toInt = 3 from rfl, i_bm (by omega) (by omega)]
    have e2 := nI_i (k := i) (by omega)
    refine lv_icmp_gt (tgt := 1392) hx hb dL_law_29 (by decide) (fun _ => fin _ _ _ _ _ hS (by omega) (by omega)) (fun c9 => ?_)
    have hi3 : i + 3 ≤ L := by
      have : ¬ x_1.toInt < (nI i).toInt := fun q => c9 (Int32.lt_iff_toInt_lt.mpr q)
      omega
    have hi0 : vp_in (nI i) L := vp_k (k := 0) (i := i) (by rw [e2]; rfl) (by omega)
    have hi1 : vp_in (nI i + 1) L := vp_k (k := 1) (i := i) (nI_k (k := 1) hi (by decide)) (by omega)
    have hi2 : vp_in (nI i + 2) L := vp_k (k := 2) (i := i) (nI_k (k := 2) hi (by decide)) (by omega)
    refine lv_aload_n hx hb dL_law_32 rfl (lv_at hl 1 rfl) ?_
    refine lv_iload hx hb dL_law_33 (lv_at hl 0 rfl) ?_
    refine va_sld hx hb hX hbl hbA hS hi0 dL_law_35 ?_
    refine lv_bipush (v := 31) hx hb dL_law_36 (by decide) ?_
    refine lv_iand hx hb dL_law_38 ?_
    refine lv_topi (fun x_3 ex_3 => ?_)
    obtain ⟨j, hj, ej⟩ := pk_andE (xs (nI i).toNatClampNeg) (m := 31) 5 rfl
    obtain rfl : x_3 = nI j := ex_3.trans ej
    have p3 := phCu_le HI.2.2.2.1
    have p16 := phSB_le HI.2.2.2.2.2.2.2.2.2.2.2.2.2.2.2.2.1
    have p17 := phSB_le HI.2.2.2.2.2.2.2.2.2.2.2.2.2.2.2.2.2.1
    match j, hj with
    | 0, _ =>
      refine lv_tableIn (off := 109) (tgt := 148) hx hb dL_law_39 (by decide) (by decide) rfl (by decide) ?_
      obtain ⟨r, hf, hk, hI, hT⟩ := iF_put HI (xs (nI i + 1).toNatClampNeg)
      obtain ⟨rm, hg, hJ, hU⟩ := iM_put HJ (xs (nI i + 1).toNatClampNeg)
      have hR2 : RA (ov [(0, r.2.1), (1, r.2.2)] st) rm.2 := rA_put HI HJ hR hf hg hT hU hI hJ
      have hx1 := xc_le (r.2.1.1 30)
      have hb1 : 0 + xc (r.2.1.1 30) + bud (ov [(0, r.2.1), (1, r.2.2)] st) ≤ bud st + 1 := by
        show 0 + xc (r.2.1.1 30) + (gC (phCu ((ov [(0, r.2.1), (1, r.2.2)] st) 3)) 262144 + gC (phSB ((ov [(0, r.2.1), (1, r.2.2)] st) 16)) 400000 + gC (phSB ((ov [(0, r.2.1), (1, r.2.2)] st) 17)) 400000) ≤ (gC (phCu (st 3)) 262144 + gC (phSB (st 16)) 400000 + gC (phSB (st 17)) 400000) + 1
        show 0 + xc (r.2.1.1 30) + (gC (phCu (st 3)) 262144 + gC (phSB (st 16)) 400000 + gC (phSB (st 17)) 400000) ≤ _
        unfold gC; omega
      have hb2 : 0 + 6 * xc (r.2.1.1 30) + buS (ov [(0, r.2.1), (1, r.2.2)] st) ≤ buS st + 6 := by
        show 0 + 6 * xc (r.2.1.1 30) + (gS (phCu (st 3)) 262144 + gS (phSB (st 16)) 400000 + gS (phSB (st 17)) 400000) ≤ (gS (phCu (st 3)) 262144 + gS (phSB (st 16)) 400000 + gS (phSB (st 17)) 400000) + 6
        unfold gS; omega
      refine lq_0 C0 (i := nI i) hi1 hi2 hf hg hk ⟨fun e => ((eq_put hR.1.1 hf hg).1 e).1, (eq_put hR.1.1 hf hg).2.1, (eq_put hR.1.1 hf hg).2.2.1⟩ (fun e => ((eq_put hR.1.1 hf hg).1 e).2) ⟨by omega, by omega⟩ (fun h' a' g' H locs ls e0 hP hD hS hl => ?_) hP hD hS hl
      rw [← e0] at hl
      exact lq_back hx hb hl (fun ls hl => ih (i + 3) h' a' _ hm am _ o g' H locs ls _ _ (by omega) (by omega) hI hJ hR2 (by omega) (by omega) hP hD hS hl)
    | 1, _ =>
      refine lv_tableIn (off := 165) (tgt := 204) hx hb dL_law_39 (by decide) (by decide) rfl (by decide) ?_
      obtain ⟨r, hf, hk, hI, hT⟩ := iF_end HI (xs (nI i + 1).toNatClampNeg)
      obtain ⟨rm, hg, hJ, hU⟩ := iM_end HJ (xs (nI i + 1).toNatClampNeg)
      have hR2 : RA (ov [(0, r.1), (1, r.2)] st) rm := rA_end HI HJ hR hf hg hT hU hI hJ
      have hx1 := xc_le (r.1.1 30)
      have hb1 : 0 + xc (r.1.1 30) + bud (ov [(0, r.1), (1, r.2)] st) ≤ bud st + 1 := by
        show 0 + xc (r.1.1 30) + (gC (phCu ((ov [(0, r.1), (1, r.2)] st) 3)) 262144 + gC (phSB ((ov [(0, r.1), (1, r.2)] st) 16)) 400000 + gC (phSB ((ov [(0, r.1), (1, r.2)] st) 17)) 400000) ≤ (gC (phCu (st 3)) 262144 + gC (phSB (st 16)) 400000 + gC (phSB (st 17)) 400000) + 1
        show 0 + xc (r.1.1 30) + (gC (phCu (st 3)) 262144 + gC (phSB (st 16)) 400000 + gC (phSB (st 17)) 400000) ≤ _
        unfold gC; omega
      have hb2 : 0 + 6 * xc (r.1.1 30) + buS (ov [(0, r.1), (1, r.2)] st) ≤ buS st + 6 := by
        show 0 + 6 * xc (r.1.1 30) + (gS (phCu (st 3)) 262144 + gS (phSB (st 16)) 400000 + gS (phSB (st 17)) 400000) ≤ (gS (phCu (st 3)) 262144 + gS (phSB (st 16)) 400000 + gS (phSB (st 17)) 400000) + 6
        unfold gS; omega
      refine lq_1 C0 (i := nI i) hi1 hi2 hf hg hk ⟨(eq_end hR.1.1 hf hg).1, (eq_end hR.1.1 hf hg).2.1⟩ ⟨by omega, by omega⟩ (fun h' a' g' H locs ls e0 hP hD hS hl => ?_) hP hD hS hl
      rw [← e0] at hl
      exact lq_back hx hb hl (fun ls hl => ih (i + 3) h' a' _ hm am _ o g' H locs ls _ _ (by omega) (by omega) hI hJ hR2 (by omega) (by omega) hP hD hS hl)
    | 2, _ =>
      refine lv_tableIn (off := 201) (tgt := 240) hx hb dL_law_39 (by decide) (by decide) rfl (by decide) ?_
      obtain ⟨r, hf, hk, hI, hT⟩ := iF_read HI 
      obtain ⟨rm, hg, hJ, hU⟩ := iM_read HJ 
      have hR2 : RA (ov [(0, r.2.1), (1, r.2.2.1), (2, r.2.2.2.1), (3, r.2.2.2.2.1), (10, r.2.2.2.2.2.1), (11, r.2.2.2.2.2.2.1), (12, r.2.2.2.2.2.2.2.1), (13, r.2.2.2.2.2.2.2.2)] st) rm.2 := rA_read HI HJ hR hf hg hT hU hI hJ
      have g3 : phCu (st 3) ≤ phCu r.2.2.2.2.1 := nF_read  (st 0) (st 1) (st 2) (st 3) (st 10) (st 11) (st 12) (st 13) r hf
      have b3 : phCu r.2.2.2.2.1 ≤ 262144 := phCu_le hI.2.2.2.1
      have hx1 := xc_le (r.2.1.1 30)
      have hb1 : 0 + xc (r.2.1.1 30) + bud (ov [(0, r.2.1), (1, r.2.2.1), (2, r.2.2.2.1), (3, r.2.2.2.2.1), (10, r.2.2.2.2.2.1), (11, r.2.2.2.2.2.2.1), (12, r.2.2.2.2.2.2.2.1), (13, r.2.2.2.2.2.2.2.2)] st) ≤ bud st + 1 := by
        show 0 + xc (r.2.1.1 30) + (gC (phCu ((ov [(0, r.2.1), (1, r.2.2.1), (2, r.2.2.2.1), (3, r.2.2.2.2.1), (10, r.2.2.2.2.2.1), (11, r.2.2.2.2.2.2.1), (12, r.2.2.2.2.2.2.2.1), (13, r.2.2.2.2.2.2.2.2)] st) 3)) 262144 + gC (phSB ((ov [(0, r.2.1), (1, r.2.2.1), (2, r.2.2.2.1), (3, r.2.2.2.2.1), (10, r.2.2.2.2.2.1), (11, r.2.2.2.2.2.2.1), (12, r.2.2.2.2.2.2.2.1), (13, r.2.2.2.2.2.2.2.2)] st) 16)) 400000 + gC (phSB ((ov [(0, r.2.1), (1, r.2.2.1), (2, r.2.2.2.1), (3, r.2.2.2.2.1), (10, r.2.2.2.2.2.1), (11, r.2.2.2.2.2.2.1), (12, r.2.2.2.2.2.2.2.1), (13, r.2.2.2.2.2.2.2.2)] st) 17)) 400000) ≤ (gC (phCu (st 3)) 262144 + gC (phSB (st 16)) 400000 + gC (phSB (st 17)) 400000) + 1
        show 0 + xc (r.2.1.1 30) + (gC (phCu r.2.2.2.2.1) 262144 + gC (phSB (st 16)) 400000 + gC (phSB (st 17)) 400000) ≤ _
        unfold gC; omega
      have hb2 : 0 + 6 * xc (r.2.1.1 30) + buS (ov [(0, r.2.1), (1, r.2.2.1), (2, r.2.2.2.1), (3, r.2.2.2.2.1), (10, r.2.2.2.2.2.1), (11, r.2.2.2.2.2.2.1), (12, r.2.2.2.2.2.2.2.1), (13, r.2.2.2.2.2.2.2.2)] st) ≤ buS st + 6 := by
        show 0 + 6 * xc (r.2.1.1 30) + (gS (phCu r.2.2.2.2.1) 262144 + gS (phSB (st 16)) 400000 + gS (phSB (st 17)) 400000) ≤ (gS (phCu (st 3)) 262144 + gS (phSB (st 16)) 400000 + gS (phSB (st 17)) 400000) + 6
        unfold gS; omega
      refine lq_2 C0 (i := nI i) hi1 hi2 hf hg hk (Rd_e (eq_read hR.1.1 HI.2.2.2.2.2.2.2.2.2.2.2.1 HI.2.1 HI.2.2.2.2.2.2.2.2.2.2.2.2.2.1 HI.2.2.2.2.2.2.2.2.2.2.2.2.2.2.2.2.2.2.2.2.2.2.2.2.2.2.2.2.1 HJ.1 hR.1.2.2.1 HJ.2.2.2.2.2.2.2.2.2.2.2.2.2 HJ.2.1 hf hg)).1 (Rd_e (eq_read hR.1.1 HI.2.2.2.2.2.2.2.2.2.2.2.1 HI.2.1 HI.2.2.2.2.2.2.2.2.2.2.2.2.2.1 HI.2.2.2.2.2.2.2.2.2.2.2.2.2.2.2.2.2.2.2.2.2.2.2.2.2.2.2.2.1 HJ.1 hR.1.2.2.1 HJ.2.2.2.2.2.2.2.2.2.2.2.2.2 HJ.2.1 hf hg)).2 ⟨by omega, by omega⟩ (fun h' a' g' H locs ls e0 hP hD hS hl => ?_) hP hD hS hl
      rw [← e0] at hl
      exact lq_back hx hb hl (fun ls hl => ih (i + 3) h' a' _ hm am _ o g' H locs ls _ _ (by omega) (by omega) hI hJ hR2 (by omega) (by omega) hP hD hS hl)
    | 3, _ =>
      refine lv_tableIn (off := 245) (tgt := 284) hx hb dL_law_39 (by decide) (by decide) rfl (by decide) ?_
      obtain ⟨r, hf, hk, hI, hT⟩ := iF_line HI 
      obtain ⟨rm, hg, hJ, hU⟩ := iM_line HJ 
      have hR2 : RA (ov [(0, r.2)] st) rm.2 := rA_line HI HJ hR hf hg hT hU hI hJ
      have hx1 := xc_le (r.2.1 30)
      have hb1 : 0 + xc (r.2.1 30) + bud (ov [(0, r.2)] st) ≤ bud st + 1 := by
        show 0 + xc (r.2.1 30) + (gC (phCu ((ov [(0, r.2)] st) 3)) 262144 + gC (phSB ((ov [(0, r.2)] st) 16)) 400000 + gC (phSB ((ov [(0, r.2)] st) 17)) 400000) ≤ (gC (phCu (st 3)) 262144 + gC (phSB (st 16)) 400000 + gC (phSB (st 17)) 400000) + 1
        show 0 + xc (r.2.1 30) + (gC (phCu (st 3)) 262144 + gC (phSB (st 16)) 400000 + gC (phSB (st 17)) 400000) ≤ _
        unfold gC; omega
      have hb2 : 0 + 6 * xc (r.2.1 30) + buS (ov [(0, r.2)] st) ≤ buS st + 6 := by
        show 0 + 6 * xc (r.2.1 30) + (gS (phCu (st 3)) 262144 + gS (phSB (st 16)) 400000 + gS (phSB (st 17)) 400000) ≤ (gS (phCu (st 3)) 262144 + gS (phSB (st 16)) 400000 + gS (phSB (st 17)) 400000) + 6
        unfold gS; omega
      refine lq_3 C0 (i := nI i) hi1 hi2 hf hg hk (fun _ => (eq_line hR.1.2.2.2.1 hf hg).1) ⟨by omega, by omega⟩ (fun h' a' g' H locs ls e0 hP hD hS hl => ?_) hP hD hS hl
      rw [← e0] at hl
      exact lq_back hx hb hl (fun ls hl => ih (i + 3) h' a' _ hm am _ o g' H locs ls _ _ (by omega) (by omega) hI hJ hR2 (by omega) (by omega) hP hD hS hl)
    | 4, _ =>
      refine lv_tableIn (off := 258) (tgt := 297) hx hb dL_law_39 (by decide) (by decide) rfl (by decide) ?_
      obtain ⟨r, hf, hk, hI, hT⟩ := iF_graph HI (xs (nI i + 1).toNatClampNeg)
      obtain ⟨rm, hg, hJ, hU⟩ := iM_graph HJ (xs (nI i + 1).toNatClampNeg)
      have hR2 : RA (ov [(0, r.2)] st) rm.2 := rA_graph HI HJ hR hf hg hT hU hI hJ
      have hx1 := xc_le (r.2.1 30)
      have hb1 : 0 + xc (r.2.1 30) + bud (ov [(0, r.2)] st) ≤ bud st + 1 := by
        show 0 + xc (r.2.1 30) + (gC (phCu ((ov [(0, r.2)] st) 3)) 262144 + gC (phSB ((ov [(0, r.2)] st) 16)) 400000 + gC (phSB ((ov [(0, r.2)] st) 17)) 400000) ≤ (gC (phCu (st 3)) 262144 + gC (phSB (st 16)) 400000 + gC (phSB (st 17)) 400000) + 1
        show 0 + xc (r.2.1 30) + (gC (phCu (st 3)) 262144 + gC (phSB (st 16)) 400000 + gC (phSB (st 17)) 400000) ≤ _
        unfold gC; omega
      have hb2 : 0 + 6 * xc (r.2.1 30) + buS (ov [(0, r.2)] st) ≤ buS st + 6 := by
        show 0 + 6 * xc (r.2.1 30) + (gS (phCu (st 3)) 262144 + gS (phSB (st 16)) 400000 + gS (phSB (st 17)) 400000) ≤ (gS (phCu (st 3)) 262144 + gS (phSB (st 16)) 400000 + gS (phSB (st 17)) 400000) + 6
        unfold gS; omega
      refine lq_4 C0 (i := nI i) hi1 hi2 hf hg hk (An_2 (eq_graph hR.1.2.2.2.2.1 (h16_i HI.2.2.2.2.2.2.2.2.2.2.2.2.1 HI.2.2.2.2.2.2.2.2.2.2.2.2.2.2.2.2.2.2.1 HI.2.2.2.2.2.2.2.2.2.2.2.2.2.2.2.2.2.2.2.1 hR.1.2.2.2.2) hf hg) (by decide) (by decide) (by decide)).1 (An_2 (eq_graph hR.1.2.2.2.2.1 (h16_i HI.2.2.2.2.2.2.2.2.2.2.2.2.1 HI.2.2.2.2.2.2.2.2.2.2.2.2.2.2.2.2.2.2.1 HI.2.2.2.2.2.2.2.2.2.2.2.2.2.2.2.2.2.2.2.1 hR.1.2.2.2.2) hf hg) (by decide) (by decide) (by decide)).2 ⟨by omega, by omega⟩ (fun h' a' g' H locs ls e0 hP hD hS hl => ?_) hP hD hS hl
      rw [← e0] at hl
      exact lq_back hx hb hl (fun ls hl => ih (i + 3) h' a' _ hm am _ o g' H locs ls _ _ (by omega) (by omega) hI hJ hR2 (by omega) (by omega) hP hD hS hl)
    | 5, _ =>
      refine lv_tableIn (off := 314) (tgt := 353) hx hb dL_law_39 (by decide) (by decide) rfl (by decide) ?_
      obtain ⟨r, hf, hk, hI, hT⟩ := iF_gate HI (xs (nI i + 1).toNatClampNeg) (xs (nI i + 2).toNatClampNeg)
      obtain ⟨rm, hg, hJ, hU⟩ := iM_gate HJ (xs (nI i + 1).toNatClampNeg) (xs (nI i + 2).toNatClampNeg)
      have hR2 : RA (ov [(0, r.2)] st) rm.2 := rA_gate HI HJ hR hf hg hT hU hI hJ
      have hx1 := xc_le (r.2.1 30)
      have hb1 : 0 + xc (r.2.1 30) + bud (ov [(0, r.2)] st) ≤ bud st + 1 := by
        show 0 + xc (r.2.1 30) + (gC (phCu ((ov [(0, r.2)] st) 3)) 262144 + gC (phSB ((ov [(0, r.2)] st) 16)) 400000 + gC (phSB ((ov [(0, r.2)] st) 17)) 400000) ≤ (gC (phCu (st 3)) 262144 + gC (phSB (st 16)) 400000 + gC (phSB (st 17)) 400000) + 1
        show 0 + xc (r.2.1 30) + (gC (phCu (st 3)) 262144 + gC (phSB (st 16)) 400000 + gC (phSB (st 17)) 400000) ≤ _
        unfold gC; omega
      have hb2 : 0 + 6 * xc (r.2.1 30) + buS (ov [(0, r.2)] st) ≤ buS st + 6 := by
        show 0 + 6 * xc (r.2.1 30) + (gS (phCu (st 3)) 262144 + gS (phSB (st 16)) 400000 + gS (phSB (st 17)) 400000) ≤ (gS (phCu (st 3)) 262144 + gS (phSB (st 16)) 400000 + gS (phSB (st 17)) 400000) + 6
        unfold gS; omega
      refine lq_5 C0 (i := nI i) hi1 hi2 hf hg hk (An_3 (eq_gate hR.1.2.2.2.2.1 (h16_i HI.2.2.2.2.2.2.2.2.2.2.2.2.1 HI.2.2.2.2.2.2.2.2.2.2.2.2.2.2.2.2.2.2.1 HI.2.2.2.2.2.2.2.2.2.2.2.2.2.2.2.2.2.2.2.1 hR.1.2.2.2.2) hf hg) (by decide) (by decide) (by decide) (by decide) (by decide) (by decide)).1 (An_3 (eq_gate hR.1.2.2.2.2.1 (h16_i HI.2.2.2.2.2.2.2.2.2.2.2.2.1 HI.2.2.2.2.2.2.2.2.2.2.2.2.2.2.2.2.2.2.1 HI.2.2.2.2.2.2.2.2.2.2.2.2.2.2.2.2.2.2.2.1 hR.1.2.2.2.2) hf hg) (by decide) (by decide) (by decide) (by decide) (by decide) (by decide)).2 ⟨by omega, by omega⟩ (fun h' a' g' H locs ls e0 hP hD hS hl => ?_) hP hD hS hl
      rw [← e0] at hl
      exact lq_back hx hb hl (fun ls hl => ih (i + 3) h' a' _ hm am _ o g' H locs ls _ _ (by omega) (by omega) hI hJ hR2 (by omega) (by omega) hP hD hS hl)
    | 6, _ =>
      refine lv_tableIn (off := 382) (tgt := 421) hx hb dL_law_39 (by decide) (by decide) rfl (by decide) ?_
      obtain ⟨r, hf, hk, hI, hT⟩ := iF_output HI (xs (nI i + 1).toNatClampNeg)
      obtain ⟨rm, hg, hJ, hU⟩ := iM_output HJ (xs (nI i + 1).toNatClampNeg)
      have hR2 : RA (ov [(0, r.2)] st) rm.2 := rA_output HI HJ hR hf hg hT hU hI hJ
      have hx1 := xc_le (r.2.1 30)
      have hb1 : 0 + xc (r.2.1 30) + bud (ov [(0, r.2)] st) ≤ bud st + 1 := by
        show 0 + xc (r.2.1 30) + (gC (phCu ((ov [(0, r.2)] st) 3)) 262144 + gC (phSB ((ov [(0, r.2)] st) 16)) 400000 + gC (phSB ((ov [(0, r.2)] st) 17)) 400000) ≤ (gC (phCu (st 3)) 262144 + gC (phSB (st 16)) 400000 + gC (phSB (st 17)) 400000) + 1
        show 0 + xc (r.2.1 30) + (gC (phCu (st 3)) 262144 + gC (phSB (st 16)) 400000 + gC (phSB (st 17)) 400000) ≤ _
        unfold gC; omega
      have hb2 : 0 + 6 * xc (r.2.1 30) + buS (ov [(0, r.2)] st) ≤ buS st + 6 := by
        show 0 + 6 * xc (r.2.1 30) + (gS (phCu (st 3)) 262144 + gS (phSB (st 16)) 400000 + gS (phSB (st 17)) 400000) ≤ (gS (phCu (st 3)) 262144 + gS (phSB (st 16)) 400000 + gS (phSB (st 17)) 400000) + 6
        unfold gS; omega
      refine lq_6 C0 (i := nI i) hi1 hi2 hf hg hk (An_2 (eq_output hR.1.2.2.2.2.1 (h16_i HI.2.2.2.2.2.2.2.2.2.2.2.2.1 HI.2.2.2.2.2.2.2.2.2.2.2.2.2.2.2.2.2.2.1 HI.2.2.2.2.2.2.2.2.2.2.2.2.2.2.2.2.2.2.2.1 hR.1.2.2.2.2) hf hg) (by decide) (by decide) (by decide)).1 (An_2 (eq_output hR.1.2.2.2.2.1 (h16_i HI.2.2.2.2.2.2.2.2.2.2.2.2.1 HI.2.2.2.2.2.2.2.2.2.2.2.2.2.2.2.2.2.2.1 HI.2.2.2.2.2.2.2.2.2.2.2.2.2.2.2.2.2.2.2.1 hR.1.2.2.2.2) hf hg) (by decide) (by decide) (by decide)).2 ⟨by omega, by omega⟩ (fun h' a' g' H locs ls e0 hP hD hS hl => ?_) hP hD hS hl
      rw [← e0] at hl
      exact lq_back hx hb hl (fun ls hl => ih (i + 3) h' a' _ hm am _ o g' H locs ls _ _ (by omega) (by omega) hI hJ hR2 (by omega) (by omega) hP hD hS hl)
    | 7, _ =>
      refine lv_tableIn (off := 438) (tgt := 477) hx hb dL_law_39 (by decide) (by decide) rfl (by decide) ?_
      obtain ⟨r, hf, hk, hI, hT⟩ := iF_value HI (xs (nI i + 1).toNatClampNeg)
      obtain ⟨rm, hg, hJ, hU⟩ := iM_value HJ (xs (nI i + 1).toNatClampNeg)
      have hR2 : RA (ov [(0, r.2.1), (2, r.2.2)] st) rm.2 := rA_value HI HJ hR hf hg hT hU hI hJ
      have hx1 := xc_le (r.2.1.1 30)
      have hb1 : 0 + xc (r.2.1.1 30) + bud (ov [(0, r.2.1), (2, r.2.2)] st) ≤ bud st + 1 := by
        show 0 + xc (r.2.1.1 30) + (gC (phCu ((ov [(0, r.2.1), (2, r.2.2)] st) 3)) 262144 + gC (phSB ((ov [(0, r.2.1), (2, r.2.2)] st) 16)) 400000 + gC (phSB ((ov [(0, r.2.1), (2, r.2.2)] st) 17)) 400000) ≤ (gC (phCu (st 3)) 262144 + gC (phSB (st 16)) 400000 + gC (phSB (st 17)) 400000) + 1
        show 0 + xc (r.2.1.1 30) + (gC (phCu (st 3)) 262144 + gC (phSB (st 16)) 400000 + gC (phSB (st 17)) 400000) ≤ _
        unfold gC; omega
      have hb2 : 0 + 6 * xc (r.2.1.1 30) + buS (ov [(0, r.2.1), (2, r.2.2)] st) ≤ buS st + 6 := by
        show 0 + 6 * xc (r.2.1.1 30) + (gS (phCu (st 3)) 262144 + gS (phSB (st 16)) 400000 + gS (phSB (st 17)) 400000) ≤ (gS (phCu (st 3)) 262144 + gS (phSB (st 16)) 400000 + gS (phSB (st 17)) 400000) + 6
        unfold gS; omega
      refine lq_7 C0 (i := nI i) hi1 hi2 hf hg hk (An_2 (eq_value hR.1.2.2.2.2.1 (h16_i HI.2.2.2.2.2.2.2.2.2.2.2.2.1 HI.2.2.2.2.2.2.2.2.2.2.2.2.2.2.2.2.2.2.1 HI.2.2.2.2.2.2.2.2.2.2.2.2.2.2.2.2.2.2.2.1 hR.1.2.2.2.2) hR.1.2.2.2.2.2.2.1 hf hg).1 (by decide) (by decide) (by decide)).1 (An_2 (eq_value hR.1.2.2.2.2.1 (h16_i HI.2.2.2.2.2.2.2.2.2.2.2.2.1 HI.2.2.2.2.2.2.2.2.2.2.2.2.2.2.2.2.2.2.1 HI.2.2.2.2.2.2.2.2.2.2.2.2.2.2.2.2.2.2.2.1 hR.1.2.2.2.2) hR.1.2.2.2.2.2.2.1 hf hg).1 (by decide) (by decide) (by decide)).2 ⟨by omega, by omega⟩ (fun h' a' g' H locs ls e0 hP hD hS hl => ?_) hP hD hS hl
      rw [← e0] at hl
      exact lq_back hx hb hl (fun ls hl => ih (i + 3) h' a' _ hm am _ o g' H locs ls _ _ (by omega) (by omega) hI hJ hR2 (by omega) (by omega) hP hD hS hl)
    | 8, _ =>
      refine lv_tableIn (off := 494) (tgt := 533) hx hb dL_law_39 (by decide) (by decide) rfl (by decide) ?_
      obtain ⟨r, hf, hk, hI, hT⟩ := iF_balance HI 
      obtain ⟨rm, hg, hJ, hU⟩ := iM_balance HJ 
      have hR2 : RA (ov [(0, r.2.1), (2, r.2.2.1), (3, r.2.2.2.1), (5, r.2.2.2.2.1), (12, r.2.2.2.2.2.1), (13, r.2.2.2.2.2.2)] st) rm.2 := rA_balance HI HJ hR hf hg hT hU hI hJ
      have g3 : phCu (st 3) ≤ phCu r.2.2.2.1 := nF_balance  (st 0) (st 2) (st 3) (st 5) (st 12) (st 13) r hf
      have b3 : phCu r.2.2.2.1 ≤ 262144 := phCu_le hI.2.2.2.1
      have hx1 := xc_le (r.2.1.1 30)
      have hb1 : 0 + xc (r.2.1.1 30) + bud (ov [(0, r.2.1), (2, r.2.2.1), (3, r.2.2.2.1), (5, r.2.2.2.2.1), (12, r.2.2.2.2.2.1), (13, r.2.2.2.2.2.2)] st) ≤ bud st + 1 := by
        show 0 + xc (r.2.1.1 30) + (gC (phCu ((ov [(0, r.2.1), (2, r.2.2.1), (3, r.2.2.2.1), (5, r.2.2.2.2.1), (12, r.2.2.2.2.2.1), (13, r.2.2.2.2.2.2)] st) 3)) 262144 + gC (phSB ((ov [(0, r.2.1), (2, r.2.2.1), (3, r.2.2.2.1), (5, r.2.2.2.2.1), (12, r.2.2.2.2.2.1), (13, r.2.2.2.2.2.2)] st) 16)) 400000 + gC (phSB ((ov [(0, r.2.1), (2, r.2.2.1), (3, r.2.2.2.1), (5, r.2.2.2.2.1), (12, r.2.2.2.2.2.1), (13, r.2.2.2.2.2.2)] st) 17)) 400000) ≤ (gC (phCu (st 3)) 262144 + gC (phSB (st 16)) 400000 + gC (phSB (st 17)) 400000) + 1
        show 0 + xc (r.2.1.1 30) + (gC (phCu r.2.2.2.1) 262144 + gC (phSB (st 16)) 400000 + gC (phSB (st 17)) 400000) ≤ _
        unfold gC; omega
      have hb2 : 0 + 6 * xc (r.2.1.1 30) + buS (ov [(0, r.2.1), (2, r.2.2.1), (3, r.2.2.2.1), (5, r.2.2.2.2.1), (12, r.2.2.2.2.2.1), (13, r.2.2.2.2.2.2)] st) ≤ buS st + 6 := by
        show 0 + 6 * xc (r.2.1.1 30) + (gS (phCu r.2.2.2.1) 262144 + gS (phSB (st 16)) 400000 + gS (phSB (st 17)) 400000) ≤ (gS (phCu (st 3)) 262144 + gS (phSB (st 16)) 400000 + gS (phSB (st 17)) 400000) + 6
        unfold gS; omega
      refine lq_8 C0 (i := nI i) hi1 hi2 hf hg hk (Gr_e (eq_balance hR.1.2.2.2.2.1 (h16_i HI.2.2.2.2.2.2.2.2.2.2.2.2.1 HI.2.2.2.2.2.2.2.2.2.2.2.2.2.2.2.2.2.2.1 HI.2.2.2.2.2.2.2.2.2.2.2.2.2.2.2.2.2.2.2.1 hR.1.2.2.2.2) HJ.1 HJ.2.2.2.2.2.2.2.2.2.2.2.2.2 hf hg)).1 (Gr_e (eq_balance hR.1.2.2.2.2.1 (h16_i HI.2.2.2.2.2.2.2.2.2.2.2.2.1 HI.2.2.2.2.2.2.2.2.2.2.2.2.2.2.2.2.2.2.1 HI.2.2.2.2.2.2.2.2.2.2.2.2.2.2.2.2.2.2.2.1 hR.1.2.2.2.2) HJ.1 HJ.2.2.2.2.2.2.2.2.2.2.2.2.2 hf hg)).2 ⟨by omega, by omega⟩ (fun h' a' g' H locs ls e0 hP hD hS hl => ?_) hP hD hS hl
      rw [← e0] at hl
      exact lq_back hx hb hl (fun ls hl => ih (i + 3) h' a' _ hm am _ o g' H locs ls _ _ (by omega) (by omega) hI hJ hR2 (by omega) (by omega) hP hD hS hl)
    | 9, _ =>
      refine lv_tableIn (off := 538) (tgt := 577) hx hb dL_law_39 (by decide) (by decide) rfl (by decide) ?_
      obtain ⟨r, hf, hk, hI, hT⟩ := iF_reduce HI 
      obtain ⟨rm, hg, hJ, hU⟩ := iM_reduce HJ 
      have hR2 : RA (ov [(0, r.2.1), (2, r.2.2.1), (3, r.2.2.2.1), (5, r.2.2.2.2.1), (12, r.2.2.2.2.2.1), (13, r.2.2.2.2.2.2)] st) rm.2 := rA_reduce HI HJ hR hf hg hT hU hI hJ
      have g3 : phCu (st 3) ≤ phCu r.2.2.2.1 := nF_reduce  (st 0) (st 2) (st 3) (st 5) (st 12) (st 13) r hf
      have b3 : phCu r.2.2.2.1 ≤ 262144 := phCu_le hI.2.2.2.1
      have hx1 := xc_le (r.2.1.1 30)
      have hb1 : 0 + xc (r.2.1.1 30) + bud (ov [(0, r.2.1), (2, r.2.2.1), (3, r.2.2.2.1), (5, r.2.2.2.2.1), (12, r.2.2.2.2.2.1), (13, r.2.2.2.2.2.2)] st) ≤ bud st + 1 := by
        show 0 + xc (r.2.1.1 30) + (gC (phCu ((ov [(0, r.2.1), (2, r.2.2.1), (3, r.2.2.2.1), (5, r.2.2.2.2.1), (12, r.2.2.2.2.2.1), (13, r.2.2.2.2.2.2)] st) 3)) 262144 + gC (phSB ((ov [(0, r.2.1), (2, r.2.2.1), (3, r.2.2.2.1), (5, r.2.2.2.2.1), (12, r.2.2.2.2.2.1), (13, r.2.2.2.2.2.2)] st) 16)) 400000 + gC (phSB ((ov [(0, r.2.1), (2, r.2.2.1), (3, r.2.2.2.1), (5, r.2.2.2.2.1), (12, r.2.2.2.2.2.1), (13, r.2.2.2.2.2.2)] st) 17)) 400000) ≤ (gC (phCu (st 3)) 262144 + gC (phSB (st 16)) 400000 + gC (phSB (st 17)) 400000) + 1
        show 0 + xc (r.2.1.1 30) + (gC (phCu r.2.2.2.1) 262144 + gC (phSB (st 16)) 400000 + gC (phSB (st 17)) 400000) ≤ _
        unfold gC; omega
      have hb2 : 0 + 6 * xc (r.2.1.1 30) + buS (ov [(0, r.2.1), (2, r.2.2.1), (3, r.2.2.2.1), (5, r.2.2.2.2.1), (12, r.2.2.2.2.2.1), (13, r.2.2.2.2.2.2)] st) ≤ buS st + 6 := by
        show 0 + 6 * xc (r.2.1.1 30) + (gS (phCu r.2.2.2.1) 262144 + gS (phSB (st 16)) 400000 + gS (phSB (st 17)) 400000) ≤ (gS (phCu (st 3)) 262144 + gS (phSB (st 16)) 400000 + gS (phSB (st 17)) 400000) + 6
        unfold gS; omega
      refine lq_9 C0 (i := nI i) hi1 hi2 hf hg hk (Gr_e (eq_reduce hR.1.2.2.2.2.1 (h16_i HI.2.2.2.2.2.2.2.2.2.2.2.2.1 HI.2.2.2.2.2.2.2.2.2.2.2.2.2.2.2.2.2.2.1 HI.2.2.2.2.2.2.2.2.2.2.2.2.2.2.2.2.2.2.2.1 hR.1.2.2.2.2) hR.1.2.2.2.2.2.2.1 HJ.1 HJ.2.2.2.2.2.2.2.2.2.2.2.2.2 hf hg).1).1 (Gr_e (eq_reduce hR.1.2.2.2.2.1 (h16_i HI.2.2.2.2.2.2.2.2.2.2.2.2.1 HI.2.2.2.2.2.2.2.2.2.2.2.2.2.2.2.2.2.2.1 HI.2.2.2.2.2.2.2.2.2.2.2.2.2.2.2.2.2.2.2.1 hR.1.2.2.2.2) hR.1.2.2.2.2.2.2.1 HJ.1 HJ.2.2.2.2.2.2.2.2.2.2.2.2.2 hf hg).1).2 ⟨by omega, by omega⟩ (fun h' a' g' H locs ls e0 hP hD hS hl => ?_) hP hD hS hl
      rw [← e0] at hl
      exact lq_back hx hb hl (fun ls hl => ih (i + 3) h' a' _ hm am _ o g' H locs ls _ _ (by omega) (by omega) hI hJ hR2 (by omega) (by omega) hP hD hS hl)
    | 10, _ =>
      refine lv_tableIn (off := 582) (tgt := 621) hx hb dL_law_39 (by decide) (by decide) rfl (by decide) ?_
      obtain ⟨r, hf, hk, hI, hT⟩ := iF_rewrite HI 
      obtain ⟨rm, hg, hJ, hU⟩ := iM_rewrite HJ 
      have hR2 : RA (ov [(0, r.2.1), (2, r.2.2.1), (3, r.2.2.2.1), (4, r.2.2.2.2.1), (5, r.2.2.2.2.2.1), (12, r.2.2.2.2.2.2.1), (13, r.2.2.2.2.2.2.2)] st) rm.2 := rA_rewrite HI HJ hR hf hg hT hU hI hJ
      have g3 : phCu (st 3) ≤ phCu r.2.2.2.1 := nF_rewrite  (st 0) (st 2) (st 3) (st 4) (st 5) (st 12) (st 13) r hf
      have b3 : phCu r.2.2.2.1 ≤ 262144 := phCu_le hI.2.2.2.1
      have hx1 := xc_le (r.2.1.1 30)
      have hb1 : gC (phCu (st 3)) (phCu r.2.2.2.1) + xc (r.2.1.1 30) + bud (ov [(0, r.2.1), (2, r.2.2.1), (3, r.2.2.2.1), (4, r.2.2.2.2.1), (5, r.2.2.2.2.2.1), (12, r.2.2.2.2.2.2.1), (13, r.2.2.2.2.2.2.2)] st) ≤ bud st + 1 := by
        show gC (phCu (st 3)) (phCu r.2.2.2.1) + xc (r.2.1.1 30) + (gC (phCu ((ov [(0, r.2.1), (2, r.2.2.1), (3, r.2.2.2.1), (4, r.2.2.2.2.1), (5, r.2.2.2.2.2.1), (12, r.2.2.2.2.2.2.1), (13, r.2.2.2.2.2.2.2)] st) 3)) 262144 + gC (phSB ((ov [(0, r.2.1), (2, r.2.2.1), (3, r.2.2.2.1), (4, r.2.2.2.2.1), (5, r.2.2.2.2.2.1), (12, r.2.2.2.2.2.2.1), (13, r.2.2.2.2.2.2.2)] st) 16)) 400000 + gC (phSB ((ov [(0, r.2.1), (2, r.2.2.1), (3, r.2.2.2.1), (4, r.2.2.2.2.1), (5, r.2.2.2.2.2.1), (12, r.2.2.2.2.2.2.1), (13, r.2.2.2.2.2.2.2)] st) 17)) 400000) ≤ (gC (phCu (st 3)) 262144 + gC (phSB (st 16)) 400000 + gC (phSB (st 17)) 400000) + 1
        show gC (phCu (st 3)) (phCu r.2.2.2.1) + xc (r.2.1.1 30) + (gC (phCu r.2.2.2.1) 262144 + gC (phSB (st 16)) 400000 + gC (phSB (st 17)) 400000) ≤ _
        unfold gC; omega
      have hb2 : gS (phCu (st 3)) (phCu r.2.2.2.1) + 6 * xc (r.2.1.1 30) + buS (ov [(0, r.2.1), (2, r.2.2.1), (3, r.2.2.2.1), (4, r.2.2.2.2.1), (5, r.2.2.2.2.2.1), (12, r.2.2.2.2.2.2.1), (13, r.2.2.2.2.2.2.2)] st) ≤ buS st + 6 := by
        show gS (phCu (st 3)) (phCu r.2.2.2.1) + 6 * xc (r.2.1.1 30) + (gS (phCu r.2.2.2.1) 262144 + gS (phSB (st 16)) 400000 + gS (phSB (st 17)) 400000) ≤ (gS (phCu (st 3)) 262144 + gS (phSB (st 16)) 400000 + gS (phSB (st 17)) 400000) + 6
        unfold gS; omega
      refine lq_10 C0 (i := nI i) hi1 hi2 hf hg hk (Gr_e (eq_rewrite hR.1.2.2.2.2.1 (h16_i HI.2.2.2.2.2.2.2.2.2.2.2.2.1 HI.2.2.2.2.2.2.2.2.2.2.2.2.2.2.2.2.2.2.1 HI.2.2.2.2.2.2.2.2.2.2.2.2.2.2.2.2.2.2.2.1 hR.1.2.2.2.2) hR.1.2.2.2.2.2.2.1 (len_i HI.2.2.2.1 HI.2.2.2.2.2.2.2.2.2.2.2.2.2.2.2.2.2.2.2.2.2.2.2.1 HI.2.2.2.2.2.2.2.2.2.2.2.2.2.2.2.2.2.2.2.2.2.2.1) hR.1.2.2.2.2.2.2.2.1 hR.1.2.2.2.2.2.2.2.2 HJ.1 HJ.2.2.2.2.2.2.2.2.2.2.2.2.2 HJ.2.2.2.2.2.2.2.1 hf hg).1).1 (Gr_e (eq_rewrite hR.1.2.2.2.2.1 (h16_i HI.2.2.2.2.2.2.2.2.2.2.2.2.1 HI.2.2.2.2.2.2.2.2.2.2.2.2.2.2.2.2.2.2.1 HI.2.2.2.2.2.2.2.2.2.2.2.2.2.2.2.2.2.2.2.1 hR.1.2.2.2.2) hR.1.2.2.2.2.2.2.1 (len_i HI.2.2.2.1 HI.2.2.2.2.2.2.2.2.2.2.2.2.2.2.2.2.2.2.2.2.2.2.2.1 HI.2.2.2.2.2.2.2.2.2.2.2.2.2.2.2.2.2.2.2.2.2.2.1) hR.1.2.2.2.2.2.2.2.1 hR.1.2.2.2.2.2.2.2.2 HJ.1 HJ.2.2.2.2.2.2.2.2.2.2.2.2.2 HJ.2.2.2.2.2.2.2.1 hf hg).1).2 ⟨by omega, by omega⟩ (fun h' a' g' H locs ls e0 hP hD hS hl => ?_) hP hD hS hl
      rw [← e0] at hl
      exact lq_back hx hb hl (fun ls hl => ih (i + 3) h' a' _ hm am _ o g' H locs ls _ _ (by omega) (by omega) hI hJ hR2 (by omega) (by omega) hP hD hS hl)
    | 11, _ =>
      refine lv_tableIn (off := 626) (tgt := 665) hx hb dL_law_39 (by decide) (by decide) rfl (by decide) ?_
      obtain ⟨r, hf, hk, hI, hT⟩ := iF_diagram HI (xs (nI i + 1).toNatClampNeg) (xs (nI i + 2).toNatClampNeg)
      obtain ⟨rm, hg, hJ, hU⟩ := iM_diagram HJ (xs (nI i + 1).toNatClampNeg) (xs (nI i + 2).toNatClampNeg)
      have hR2 : RA (ov [(0, r.2.1), (2, r.2.2)] st) rm.2 := rA_diagram HI HJ hR hf hg hT hU hI hJ
      have hx1 := xc_le (r.2.1.1 30)
      have hb1 : 0 + xc (r.2.1.1 30) + bud (ov [(0, r.2.1), (2, r.2.2)] st) ≤ bud st + 1 := by
        show 0 + xc (r.2.1.1 30) + (gC (phCu ((ov [(0, r.2.1), (2, r.2.2)] st) 3)) 262144 + gC (phSB ((ov [(0, r.2.1), (2, r.2.2)] st) 16)) 400000 + gC (phSB ((ov [(0, r.2.1), (2, r.2.2)] st) 17)) 400000) ≤ (gC (phCu (st 3)) 262144 + gC (phSB (st 16)) 400000 + gC (phSB (st 17)) 400000) + 1
        show 0 + xc (r.2.1.1 30) + (gC (phCu (st 3)) 262144 + gC (phSB (st 16)) 400000 + gC (phSB (st 17)) 400000) ≤ _
        unfold gC; omega
      have hb2 : 0 + 6 * xc (r.2.1.1 30) + buS (ov [(0, r.2.1), (2, r.2.2)] st) ≤ buS st + 6 := by
        show 0 + 6 * xc (r.2.1.1 30) + (gS (phCu (st 3)) 262144 + gS (phSB (st 16)) 400000 + gS (phSB (st 17)) 400000) ≤ (gS (phCu (st 3)) 262144 + gS (phSB (st 16)) 400000 + gS (phSB (st 17)) 400000) + 6
        unfold gS; omega
      refine lq_11 C0 (i := nI i) hi1 hi2 hf hg hk (An_3 (eq_diagram hR.1.2.2.2.2.1 (h16_i HI.2.2.2.2.2.2.2.2.2.2.2.2.1 HI.2.2.2.2.2.2.2.2.2.2.2.2.2.2.2.2.2.2.1 HI.2.2.2.2.2.2.2.2.2.2.2.2.2.2.2.2.2.2.2.1 hR.1.2.2.2.2) hR.1.2.2.2.2.2.2.1 hf hg) (by decide) (by decide) (by decide) (by decide) (by decide) (by decide)).1 (An_3 (eq_diagram hR.1.2.2.2.2.1 (h16_i HI.2.2.2.2.2.2.2.2.2.2.2.2.1 HI.2.2.2.2.2.2.2.2.2.2.2.2.2.2.2.2.2.2.1 HI.2.2.2.2.2.2.2.2.2.2.2.2.2.2.2.2.2.2.2.1 hR.1.2.2.2.2) hR.1.2.2.2.2.2.2.1 hf hg) (by decide) (by decide) (by decide) (by decide) (by decide) (by decide)).2 ⟨by omega, by omega⟩ (fun h' a' g' H locs ls e0 hP hD hS hl => ?_) hP hD hS hl
      rw [← e0] at hl
      exact lq_back hx hb hl (fun ls hl => ih (i + 3) h' a' _ hm am _ o g' H locs ls _ _ (by omega) (by omega) hI hJ hR2 (by omega) (by omega) hP hD hS hl)
    | 12, _ =>
      refine lv_tableIn (off := 694) (tgt := 733) hx hb dL_law_39 (by decide) (by decide) rfl (by decide) ?_
      obtain ⟨r, hf, hk, hI, hT⟩ := iF_differ HI (xs (nI i + 1).toNatClampNeg) (xs (nI i + 2).toNatClampNeg)
      obtain ⟨rm, hg, hJ, hU⟩ := iM_differ HJ (xs (nI i + 1).toNatClampNeg) (xs (nI i + 2).toNatClampNeg)
      have hR2 : RA (ov [(0, r.2.1), (2, r.2.2)] st) rm.2 := rA_differ HI HJ hR hf hg hT hU hI hJ
      have hx1 := xc_le (r.2.1.1 30)
      have hb1 : 0 + xc (r.2.1.1 30) + bud (ov [(0, r.2.1), (2, r.2.2)] st) ≤ bud st + 1 := by
        show 0 + xc (r.2.1.1 30) + (gC (phCu ((ov [(0, r.2.1), (2, r.2.2)] st) 3)) 262144 + gC (phSB ((ov [(0, r.2.1), (2, r.2.2)] st) 16)) 400000 + gC (phSB ((ov [(0, r.2.1), (2, r.2.2)] st) 17)) 400000) ≤ (gC (phCu (st 3)) 262144 + gC (phSB (st 16)) 400000 + gC (phSB (st 17)) 400000) + 1
        show 0 + xc (r.2.1.1 30) + (gC (phCu (st 3)) 262144 + gC (phSB (st 16)) 400000 + gC (phSB (st 17)) 400000) ≤ _
        unfold gC; omega
      have hb2 : 0 + 6 * xc (r.2.1.1 30) + buS (ov [(0, r.2.1), (2, r.2.2)] st) ≤ buS st + 6 := by
        show 0 + 6 * xc (r.2.1.1 30) + (gS (phCu (st 3)) 262144 + gS (phSB (st 16)) 400000 + gS (phSB (st 17)) 400000) ≤ (gS (phCu (st 3)) 262144 + gS (phSB (st 16)) 400000 + gS (phSB (st 17)) 400000) + 6
        unfold gS; omega
      refine lq_12 C0 (i := nI i) hi1 hi2 hf hg hk (An_2 (eq_differ hR.1.2.2.2.2.1 (h16_i HI.2.2.2.2.2.2.2.2.2.2.2.2.1 HI.2.2.2.2.2.2.2.2.2.2.2.2.2.2.2.2.2.2.1 HI.2.2.2.2.2.2.2.2.2.2.2.2.2.2.2.2.2.2.2.1 hR.1.2.2.2.2) hR.1.2.2.2.2.2.2.1 hf hg).1 (by decide) (by decide) (by decide)).1 (An_2 (eq_differ hR.1.2.2.2.2.1 (h16_i HI.2.2.2.2.2.2.2.2.2.2.2.2.1 HI.2.2.2.2.2.2.2.2.2.2.2.2.2.2.2.2.2.2.1 HI.2.2.2.2.2.2.2.2.2.2.2.2.2.2.2.2.2.2.2.1 hR.1.2.2.2.2) hR.1.2.2.2.2.2.2.1 hf hg).1 (by decide) (by decide) (by decide)).2 ⟨by omega, by omega⟩ (fun h' a' g' H locs ls e0 hP hD hS hl => ?_) hP hD hS hl
      rw [← e0] at hl
      exact lq_back hx hb hl (fun ls hl => ih (i + 3) h' a' _ hm am _ o g' H locs ls _ _ (by omega) (by omega) hI hJ hR2 (by omega) (by omega) hP hD hS hl)
    | 13, _ =>
      refine lv_tableIn (off := 762) (tgt := 801) hx hb dL_law_39 (by decide) (by decide) rfl (by decide) ?_
      obtain ⟨r, hf, hk, hI, hT⟩ := iF_coverFew HI (xs (nI i + 1).toNatClampNeg)
      obtain ⟨rm, hg, hJ, hU⟩ := iM_coverFew HJ (xs (nI i + 1).toNatClampNeg)
      have hR2 : RA (ov [(0, r.2.1), (3, r.2.2.1), (4, r.2.2.2.1), (6, r.2.2.2.2.1), (8, r.2.2.2.2.2)] st) rm.2 := rA_coverFew HI HJ hR hf hg hT hU hI hJ
      have g3 : phCu (st 3) ≤ phCu r.2.2.1 := nF_coverFew (xs (nI i + 1).toNatClampNeg) (st 0) (st 3) (st 4) (st 6) (st 8) (st 12) (st 16) r hf
      have b3 : phCu r.2.2.1 ≤ 262144 := phCu_le hI.2.2.2.1
      have hx1 := xc_le (r.2.1.1 30)
      have hb1 : gC (phCu (st 3)) (phCu r.2.2.1) + xc (r.2.1.1 30) + bud (ov [(0, r.2.1), (3, r.2.2.1), (4, r.2.2.2.1), (6, r.2.2.2.2.1), (8, r.2.2.2.2.2)] st) ≤ bud st + 1 := by
        show gC (phCu (st 3)) (phCu r.2.2.1) + xc (r.2.1.1 30) + (gC (phCu ((ov [(0, r.2.1), (3, r.2.2.1), (4, r.2.2.2.1), (6, r.2.2.2.2.1), (8, r.2.2.2.2.2)] st) 3)) 262144 + gC (phSB ((ov [(0, r.2.1), (3, r.2.2.1), (4, r.2.2.2.1), (6, r.2.2.2.2.1), (8, r.2.2.2.2.2)] st) 16)) 400000 + gC (phSB ((ov [(0, r.2.1), (3, r.2.2.1), (4, r.2.2.2.1), (6, r.2.2.2.2.1), (8, r.2.2.2.2.2)] st) 17)) 400000) ≤ (gC (phCu (st 3)) 262144 + gC (phSB (st 16)) 400000 + gC (phSB (st 17)) 400000) + 1
        show gC (phCu (st 3)) (phCu r.2.2.1) + xc (r.2.1.1 30) + (gC (phCu r.2.2.1) 262144 + gC (phSB (st 16)) 400000 + gC (phSB (st 17)) 400000) ≤ _
        unfold gC; omega
      have hb2 : gS (phCu (st 3)) (phCu r.2.2.1) + 6 * xc (r.2.1.1 30) + buS (ov [(0, r.2.1), (3, r.2.2.1), (4, r.2.2.2.1), (6, r.2.2.2.2.1), (8, r.2.2.2.2.2)] st) ≤ buS st + 6 := by
        show gS (phCu (st 3)) (phCu r.2.2.1) + 6 * xc (r.2.1.1 30) + (gS (phCu r.2.2.1) 262144 + gS (phSB (st 16)) 400000 + gS (phSB (st 17)) 400000) ≤ (gS (phCu (st 3)) 262144 + gS (phSB (st 16)) 400000 + gS (phSB (st 17)) 400000) + 6
        unfold gS; omega
      refine lq_13 C0 (i := nI i) hi1 hi2 hf hg hk (An_3 (eq_coverFew hR.1.2.2.2.2.1 (h16_i HI.2.2.2.2.2.2.2.2.2.2.2.2.1 HI.2.2.2.2.2.2.2.2.2.2.2.2.2.2.2.2.2.2.1 HI.2.2.2.2.2.2.2.2.2.2.2.2.2.2.2.2.2.2.2.1 hR.1.2.2.2.2) (len_i HI.2.2.2.1 HI.2.2.2.2.2.2.2.2.2.2.2.2.2.2.2.2.2.2.2.2.2.2.2.1 HI.2.2.2.2.2.2.2.2.2.2.2.2.2.2.2.2.2.2.2.2.2.2.1) hR.1.2.2.2.2.2.2.2.1 hR.2.1.2.1 HJ.1 HJ.2.2.2.2.2.2.2.2.2.2.2.2.2 HJ.2.2.2.2.2.2.2.1 hR.2.1.1 hf hg).1 (by decide) (by decide) (by decide) (by decide) (by decide) (by decide)).1 (An_3 (eq_coverFew hR.1.2.2.2.2.1 (h16_i HI.2.2.2.2.2.2.2.2.2.2.2.2.1 HI.2.2.2.2.2.2.2.2.2.2.2.2.2.2.2.2.2.2.1 HI.2.2.2.2.2.2.2.2.2.2.2.2.2.2.2.2.2.2.2.1 hR.1.2.2.2.2) (len_i HI.2.2.2.1 HI.2.2.2.2.2.2.2.2.2.2.2.2.2.2.2.2.2.2.2.2.2.2.2.1 HI.2.2.2.2.2.2.2.2.2.2.2.2.2.2.2.2.2.2.2.2.2.2.1) hR.1.2.2.2.2.2.2.2.1 hR.2.1.2.1 HJ.1 HJ.2.2.2.2.2.2.2.2.2.2.2.2.2 HJ.2.2.2.2.2.2.2.1 hR.2.1.1 hf hg).1 (by decide) (by decide) (by decide) (by decide) (by decide) (by decide)).2 ⟨by omega, by omega⟩ (fun h' a' g' H locs ls e0 hP hD hS hl => ?_) hP hD hS hl
      rw [← e0] at hl
      exact lq_back hx hb hl (fun ls hl => ih (i + 3) h' a' _ hm am _ o g' H locs ls _ _ (by omega) (by omega) hI hJ hR2 (by omega) (by omega) hP hD hS hl)
    | 14, _ =>
      refine lv_tableIn (off := 818) (tgt := 857) hx hb dL_law_39 (by decide) (by decide) rfl (by decide) ?_
      obtain ⟨r, hf, hk, hI, hT⟩ := iF_cover HI (xs (nI i + 1).toNatClampNeg)
      obtain ⟨rm, hg, hJ, hU⟩ := iM_cover HJ (xs (nI i + 1).toNatClampNeg)
      have hR2 : RA (ov [(0, r.2.1), (3, r.2.2.1), (4, r.2.2.2.1), (6, r.2.2.2.2.1), (8, r.2.2.2.2.2)] st) rm.2 := rA_cover HI HJ hR hf hg hT hU hI hJ
      have g3 : phCu (st 3) ≤ phCu r.2.2.1 := nF_cover (xs (nI i + 1).toNatClampNeg) (st 0) (st 3) (st 4) (st 6) (st 8) (st 12) (st 16) r hf
      have b3 : phCu r.2.2.1 ≤ 262144 := phCu_le hI.2.2.2.1
      have hx1 := xc_le (r.2.1.1 30)
      have hb1 : gC (phCu (st 3)) (phCu r.2.2.1) + xc (r.2.1.1 30) + bud (ov [(0, r.2.1), (3, r.2.2.1), (4, r.2.2.2.1), (6, r.2.2.2.2.1), (8, r.2.2.2.2.2)] st) ≤ bud st + 1 := by
        show gC (phCu (st 3)) (phCu r.2.2.1) + xc (r.2.1.1 30) + (gC (phCu ((ov [(0, r.2.1), (3, r.2.2.1), (4, r.2.2.2.1), (6, r.2.2.2.2.1), (8, r.2.2.2.2.2)] st) 3)) 262144 + gC (phSB ((ov [(0, r.2.1), (3, r.2.2.1), (4, r.2.2.2.1), (6, r.2.2.2.2.1), (8, r.2.2.2.2.2)] st) 16)) 400000 + gC (phSB ((ov [(0, r.2.1), (3, r.2.2.1), (4, r.2.2.2.1), (6, r.2.2.2.2.1), (8, r.2.2.2.2.2)] st) 17)) 400000) ≤ (gC (phCu (st 3)) 262144 + gC (phSB (st 16)) 400000 + gC (phSB (st 17)) 400000) + 1
        show gC (phCu (st 3)) (phCu r.2.2.1) + xc (r.2.1.1 30) + (gC (phCu r.2.2.1) 262144 + gC (phSB (st 16)) 400000 + gC (phSB (st 17)) 400000) ≤ _
        unfold gC; omega
      have hb2 : gS (phCu (st 3)) (phCu r.2.2.1) + 6 * xc (r.2.1.1 30) + buS (ov [(0, r.2.1), (3, r.2.2.1), (4, r.2.2.2.1), (6, r.2.2.2.2.1), (8, r.2.2.2.2.2)] st) ≤ buS st + 6 := by
        show gS (phCu (st 3)) (phCu r.2.2.1) + 6 * xc (r.2.1.1 30) + (gS (phCu r.2.2.1) 262144 + gS (phSB (st 16)) 400000 + gS (phSB (st 17)) 400000) ≤ (gS (phCu (st 3)) 262144 + gS (phSB (st 16)) 400000 + gS (phSB (st 17)) 400000) + 6
        unfold gS; omega
      refine lq_14 C0 (i := nI i) hi1 hi2 hf hg hk (An_3 (eq_cover hR.1.2.2.2.2.1 (h16_i HI.2.2.2.2.2.2.2.2.2.2.2.2.1 HI.2.2.2.2.2.2.2.2.2.2.2.2.2.2.2.2.2.2.1 HI.2.2.2.2.2.2.2.2.2.2.2.2.2.2.2.2.2.2.2.1 hR.1.2.2.2.2) (len_i HI.2.2.2.1 HI.2.2.2.2.2.2.2.2.2.2.2.2.2.2.2.2.2.2.2.2.2.2.2.1 HI.2.2.2.2.2.2.2.2.2.2.2.2.2.2.2.2.2.2.2.2.2.2.1) hR.1.2.2.2.2.2.2.2.1 hR.2.1.2.1 HJ.1 HJ.2.2.2.2.2.2.2.2.2.2.2.2.2 HJ.2.2.2.2.2.2.2.1 hR.2.1.1 hf hg).1 (by decide) (by decide) (by decide) (by decide) (by decide) (by decide)).1 (An_3 (eq_cover hR.1.2.2.2.2.1 (h16_i HI.2.2.2.2.2.2.2.2.2.2.2.2.1 HI.2.2.2.2.2.2.2.2.2.2.2.2.2.2.2.2.2.2.1 HI.2.2.2.2.2.2.2.2.2.2.2.2.2.2.2.2.2.2.2.1 hR.1.2.2.2.2) (len_i HI.2.2.2.1 HI.2.2.2.2.2.2.2.2.2.2.2.2.2.2.2.2.2.2.2.2.2.2.2.1 HI.2.2.2.2.2.2.2.2.2.2.2.2.2.2.2.2.2.2.2.2.2.2.1) hR.1.2.2.2.2.2.2.2.1 hR.2.1.2.1 HJ.1 HJ.2.2.2.2.2.2.2.2.2.2.2.2.2 HJ.2.2.2.2.2.2.2.1 hR.2.1.1 hf hg).1 (by decide) (by decide) (by decide) (by decide) (by decide) (by decide)).2 ⟨by omega, by omega⟩ (fun h' a' g' H locs ls e0 hP hD hS hl => ?_) hP hD hS hl
      rw [← e0] at hl
      exact lq_back hx hb hl (fun ls hl => ih (i + 3) h' a' _ hm am _ o g' H locs ls _ _ (by omega) (by omega) hI hJ hR2 (by omega) (by omega) hP hD hS hl)
    | 15, _ =>
      refine lv_tableIn (off := 874) (tgt := 913) hx hb dL_law_39 (by decide) (by decide) rfl (by decide) ?_
      obtain ⟨r, hf, hk, hI, hT⟩ := iF_depth HI 
      obtain ⟨rm, hg, hJ, hU⟩ := iM_depth HJ 
      have hR2 : RA (ov [(0, r.2)] st) rm.2 := rA_depth HI HJ hR hf hg hT hU hI hJ
      have hx1 := xc_le (r.2.1 30)
      have hb1 : 0 + xc (r.2.1 30) + bud (ov [(0, r.2)] st) ≤ bud st + 1 := by
        show 0 + xc (r.2.1 30) + (gC (phCu ((ov [(0, r.2)] st) 3)) 262144 + gC (phSB ((ov [(0, r.2)] st) 16)) 400000 + gC (phSB ((ov [(0, r.2)] st) 17)) 400000) ≤ (gC (phCu (st 3)) 262144 + gC (phSB (st 16)) 400000 + gC (phSB (st 17)) 400000) + 1
        show 0 + xc (r.2.1 30) + (gC (phCu (st 3)) 262144 + gC (phSB (st 16)) 400000 + gC (phSB (st 17)) 400000) ≤ _
        unfold gC; omega
      have hb2 : 0 + 6 * xc (r.2.1 30) + buS (ov [(0, r.2)] st) ≤ buS st + 6 := by
        show 0 + 6 * xc (r.2.1 30) + (gS (phCu (st 3)) 262144 + gS (phSB (st 16)) 400000 + gS (phSB (st 17)) 400000) ≤ (gS (phCu (st 3)) 262144 + gS (phSB (st 16)) 400000 + gS (phSB (st 17)) 400000) + 6
        unfold gS; omega
      refine lq_15 C0 (i := nI i) hi1 hi2 hf hg hk (An_1 (eq_depth (fun e => hG_o (h16_i HI.2.2.2.2.2.2.2.2.2.2.2.2.1 HI.2.2.2.2.2.2.2.2.2.2.2.2.2.2.2.2.2.2.1 HI.2.2.2.2.2.2.2.2.2.2.2.2.2.2.2.2.2.2.2.1 hR.1.2.2.2.2) (hR.2.1.2.2.2.2 e)) hR.2.1.1 hf hg).1 (by decide)).1 (An_1 (eq_depth (fun e => hG_o (h16_i HI.2.2.2.2.2.2.2.2.2.2.2.2.1 HI.2.2.2.2.2.2.2.2.2.2.2.2.2.2.2.2.2.2.1 HI.2.2.2.2.2.2.2.2.2.2.2.2.2.2.2.2.2.2.2.1 hR.1.2.2.2.2) (hR.2.1.2.2.2.2 e)) hR.2.1.1 hf hg).1 (by decide)).2 ⟨by omega, by omega⟩ (fun h' a' g' H locs ls e0 hP hD hS hl => ?_) hP hD hS hl
      rw [← e0] at hl
      exact lq_back hx hb hl (fun ls hl => ih (i + 3) h' a' _ hm am _ o g' H locs ls _ _ (by omega) (by omega) hI hJ hR2 (by omega) (by omega) hP hD hS hl)
    | 16, _ =>
      refine lv_tableIn (off := 918) (tgt := 957) hx hb dL_law_39 (by decide) (by decide) rfl (by decide) ?_
      obtain ⟨r, hf, hk, hI, hT⟩ := iF_cell HI (xs (nI i + 1).toNatClampNeg) (xs (nI i + 2).toNatClampNeg)
      obtain ⟨rm, hg, hJ, hU⟩ := iM_cell HJ (xs (nI i + 1).toNatClampNeg) (xs (nI i + 2).toNatClampNeg)
      have hR2 : RA (ov [(0, r.2)] st) rm.2 := rA_cell HI HJ hR hf hg hT hU hI hJ
      have hx1 := xc_le (r.2.1 30)
      have hb1 : 0 + xc (r.2.1 30) + bud (ov [(0, r.2)] st) ≤ bud st + 1 := by
        show 0 + xc (r.2.1 30) + (gC (phCu ((ov [(0, r.2)] st) 3)) 262144 + gC (phSB ((ov [(0, r.2)] st) 16)) 400000 + gC (phSB ((ov [(0, r.2)] st) 17)) 400000) ≤ (gC (phCu (st 3)) 262144 + gC (phSB (st 16)) 400000 + gC (phSB (st 17)) 400000) + 1
        show 0 + xc (r.2.1 30) + (gC (phCu (st 3)) 262144 + gC (phSB (st 16)) 400000 + gC (phSB (st 17)) 400000) ≤ _
        unfold gC; omega
      have hb2 : 0 + 6 * xc (r.2.1 30) + buS (ov [(0, r.2)] st) ≤ buS st + 6 := by
        show 0 + 6 * xc (r.2.1 30) + (gS (phCu (st 3)) 262144 + gS (phSB (st 16)) 400000 + gS (phSB (st 17)) 400000) ≤ (gS (phCu (st 3)) 262144 + gS (phSB (st 16)) 400000 + gS (phSB (st 17)) 400000) + 6
        unfold gS; omega
      refine lq_16 C0 (i := nI i) hi1 hi2 hf hg hk (An_3 (eq_cell (fun e => hG_o (h16_i HI.2.2.2.2.2.2.2.2.2.2.2.2.1 HI.2.2.2.2.2.2.2.2.2.2.2.2.2.2.2.2.2.2.1 HI.2.2.2.2.2.2.2.2.2.2.2.2.2.2.2.2.2.2.2.1 hR.1.2.2.2.2) (hR.2.1.2.2.2.2 e)) hR.2.1.1 hf hg).1 (by decide) (by decide) (by decide) (by decide) (by decide) (by decide)).1 (An_3 (eq_cell (fun e => hG_o (h16_i HI.2.2.2.2.2.2.2.2.2.2.2.2.1 HI.2.2.2.2.2.2.2.2.2.2.2.2.2.2.2.2.2.2.1 HI.2.2.2.2.2.2.2.2.2.2.2.2.2.2.2.2.2.2.2.1 hR.1.2.2.2.2) (hR.2.1.2.2.2.2 e)) hR.2.1.1 hf hg).1 (by decide) (by decide) (by decide) (by decide) (by decide) (by decide)).2 ⟨by omega, by omega⟩ (fun h' a' g' H locs ls e0 hP hD hS hl => ?_) hP hD hS hl
      rw [← e0] at hl
      exact lq_back hx hb hl (fun ls hl => ih (i + 3) h' a' _ hm am _ o g' H locs ls _ _ (by omega) (by omega) hI hJ hR2 (by omega) (by omega) hP hD hS hl)
    | 17, _ =>
      refine lv_tableIn (off := 986) (tgt := 1025) hx hb dL_law_39 (by decide) (by decide) rfl (by decide) ?_
      obtain ⟨r, hf, hk, hI, hT⟩ := iF_sign HI (xs (nI i + 1).toNatClampNeg)
      obtain ⟨rm, hg, hJ, hU⟩ := iM_sign HJ (xs (nI i + 1).toNatClampNeg)
      have hR2 : RA (ov [(0, r.2.1), (8, r.2.2.1), (16, r.2.2.2)] st) rm.2 := rA_sign HI HJ hR hf hg hT hU hI hJ
      have g16 : phSB (st 16) ≤ phSB r.2.2.2 := nF_sign (xs (nI i + 1).toNatClampNeg) (st 0) (st 6) (st 8) (st 10) (st 12) (st 16) r hf
      have b16 : phSB r.2.2.2 ≤ 400000 := phSB_le hI.2.2.2.2.2.2.2.2.2.2.2.2.2.2.2.2.1
      have hx1 := xc_le (r.2.1.1 30)
      have hb1 : gC (phSB (st 16)) (phSB r.2.2.2) + xc (r.2.1.1 30) + bud (ov [(0, r.2.1), (8, r.2.2.1), (16, r.2.2.2)] st) ≤ bud st + 1 := by
        show gC (phSB (st 16)) (phSB r.2.2.2) + xc (r.2.1.1 30) + (gC (phCu ((ov [(0, r.2.1), (8, r.2.2.1), (16, r.2.2.2)] st) 3)) 262144 + gC (phSB ((ov [(0, r.2.1), (8, r.2.2.1), (16, r.2.2.2)] st) 16)) 400000 + gC (phSB ((ov [(0, r.2.1), (8, r.2.2.1), (16, r.2.2.2)] st) 17)) 400000) ≤ (gC (phCu (st 3)) 262144 + gC (phSB (st 16)) 400000 + gC (phSB (st 17)) 400000) + 1
        show gC (phSB (st 16)) (phSB r.2.2.2) + xc (r.2.1.1 30) + (gC (phCu (st 3)) 262144 + gC (phSB r.2.2.2) 400000 + gC (phSB (st 17)) 400000) ≤ _
        unfold gC; omega
      have hb2 : gS (phSB (st 16)) (phSB r.2.2.2) + 6 * xc (r.2.1.1 30) + buS (ov [(0, r.2.1), (8, r.2.2.1), (16, r.2.2.2)] st) ≤ buS st + 6 := by
        show gS (phSB (st 16)) (phSB r.2.2.2) + 6 * xc (r.2.1.1 30) + (gS (phCu (st 3)) 262144 + gS (phSB r.2.2.2) 400000 + gS (phSB (st 17)) 400000) ≤ (gS (phCu (st 3)) 262144 + gS (phSB (st 16)) 400000 + gS (phSB (st 17)) 400000) + 6
        unfold gS; omega
      refine lq_17 C0 (i := nI i) hi1 hi2 hf hg hk (An_2 (eq_sign (fun e => hG_o (h16_i HI.2.2.2.2.2.2.2.2.2.2.2.2.1 HI.2.2.2.2.2.2.2.2.2.2.2.2.2.2.2.2.2.2.1 HI.2.2.2.2.2.2.2.2.2.2.2.2.2.2.2.2.2.2.2.1 hR.1.2.2.2.2) (hR.2.1.2.2.2.2 e)) hR.2.1.1 (fun e => hR.2.1.2.2.2.1 (hR.2.1.2.2.2.2 e)) hR.1.2.2.1 (z9_0 HJ.2.2.2.2.2.2.2.2.2.2.2.2.2) hR.2.1.2.2.1 hf hg).1 (by decide) (by decide) (by decide)).1 (An_2 (eq_sign (fun e => hG_o (h16_i HI.2.2.2.2.2.2.2.2.2.2.2.2.1 HI.2.2.2.2.2.2.2.2.2.2.2.2.2.2.2.2.2.2.1 HI.2.2.2.2.2.2.2.2.2.2.2.2.2.2.2.2.2.2.2.1 hR.1.2.2.2.2) (hR.2.1.2.2.2.2 e)) hR.2.1.1 (fun e => hR.2.1.2.2.2.1 (hR.2.1.2.2.2.2 e)) hR.1.2.2.1 (z9_0 HJ.2.2.2.2.2.2.2.2.2.2.2.2.2) hR.2.1.2.2.1 hf hg).1 (by decide) (by decide) (by decide)).2 ⟨by omega, by omega⟩ (fun h' a' g' H locs ls e0 hP hD hS hl => ?_) hP hD hS hl
      rw [← e0] at hl
      exact lq_back hx hb hl (fun ls hl => ih (i + 3) h' a' _ hm am _ o g' H locs ls _ _ (by omega) (by omega) hI hJ hR2 (by omega) (by omega) hP hD hS hl)
    | 18, _ =>
      refine lv_tableIn (off := 1042) (tgt := 1081) hx hb dL_law_39 (by decide) (by decide) rfl (by decide) ?_
      obtain ⟨r, hf, hk, hI, hT⟩ := iF_library HI 
      obtain ⟨rm, hg, hJ, hU⟩ := iM_library HJ 
      have hR2 : RA (ov [(0, r.2.1), (1, r.2.2.1), (14, r.2.2.2.1), (15, r.2.2.2.2)] st) rm.2 := rA_library HI HJ hR hf hg hT hU hI hJ
      have hx1 := xc_le (r.2.1.1 30)
      have hb1 : 0 + xc (r.2.1.1 30) + bud (ov [(0, r.2.1), (1, r.2.2.1), (14, r.2.2.2.1), (15, r.2.2.2.2)] st) ≤ bud st + 1 := by
        show 0 + xc (r.2.1.1 30) + (gC (phCu ((ov [(0, r.2.1), (1, r.2.2.1), (14, r.2.2.2.1), (15, r.2.2.2.2)] st) 3)) 262144 + gC (phSB ((ov [(0, r.2.1), (1, r.2.2.1), (14, r.2.2.2.1), (15, r.2.2.2.2)] st) 16)) 400000 + gC (phSB ((ov [(0, r.2.1), (1, r.2.2.1), (14, r.2.2.2.1), (15, r.2.2.2.2)] st) 17)) 400000) ≤ (gC (phCu (st 3)) 262144 + gC (phSB (st 16)) 400000 + gC (phSB (st 17)) 400000) + 1
        show 0 + xc (r.2.1.1 30) + (gC (phCu (st 3)) 262144 + gC (phSB (st 16)) 400000 + gC (phSB (st 17)) 400000) ≤ _
        unfold gC; omega
      have hb2 : 0 + 6 * xc (r.2.1.1 30) + buS (ov [(0, r.2.1), (1, r.2.2.1), (14, r.2.2.2.1), (15, r.2.2.2.2)] st) ≤ buS st + 6 := by
        show 0 + 6 * xc (r.2.1.1 30) + (gS (phCu (st 3)) 262144 + gS (phSB (st 16)) 400000 + gS (phSB (st 17)) 400000) ≤ (gS (phCu (st 3)) 262144 + gS (phSB (st 16)) 400000 + gS (phSB (st 17)) 400000) + 6
        unfold gS; omega
      refine lq_18 C0 (i := nI i) hi1 hi2 hf hg hk (fun _ => (eq_library hR.1.1 hR.1.2.1 HI.2.2.2.2.2.2.2.2.2.2.2.2.2.2.2.1 HI.2.1 HJ.1 hR.1.2.2.1 HJ.2.2.2.2.2.2.2.2.2.2.2.2.2 HJ.2.2.2.2.2.2.2.2.1 hf hg).1) ⟨by omega, by omega⟩ (fun h' a' g' H locs ls e0 hP hD hS hl => ?_) hP hD hS hl
      rw [← e0] at hl
      exact lq_back hx hb hl (fun ls hl => ih (i + 3) h' a' _ hm am _ o g' H locs ls _ _ (by omega) (by omega) hI hJ hR2 (by omega) (by omega) hP hD hS hl)
    | 19, _ =>
      refine lv_tableIn (off := 1055) (tgt := 1094) hx hb dL_law_39 (by decide) (by decide) rfl (by decide) ?_
      obtain ⟨r, hf, hk, hI, hT⟩ := iF_libraryCell HI (xs (nI i + 1).toNatClampNeg) (xs (nI i + 2).toNatClampNeg)
      obtain ⟨rm, hg, hJ, hU⟩ := iM_libraryCell HJ (xs (nI i + 1).toNatClampNeg) (xs (nI i + 2).toNatClampNeg)
      have hR2 : RA (ov [(0, r.2)] st) rm.2 := rA_libraryCell HI HJ hR hf hg hT hU hI hJ
      have hx1 := xc_le (r.2.1 30)
      have hb1 : 0 + xc (r.2.1 30) + bud (ov [(0, r.2)] st) ≤ bud st + 1 := by
        show 0 + xc (r.2.1 30) + (gC (phCu ((ov [(0, r.2)] st) 3)) 262144 + gC (phSB ((ov [(0, r.2)] st) 16)) 400000 + gC (phSB ((ov [(0, r.2)] st) 17)) 400000) ≤ (gC (phCu (st 3)) 262144 + gC (phSB (st 16)) 400000 + gC (phSB (st 17)) 400000) + 1
        show 0 + xc (r.2.1 30) + (gC (phCu (st 3)) 262144 + gC (phSB (st 16)) 400000 + gC (phSB (st 17)) 400000) ≤ _
        unfold gC; omega
      have hb2 : 0 + 6 * xc (r.2.1 30) + buS (ov [(0, r.2)] st) ≤ buS st + 6 := by
        show 0 + 6 * xc (r.2.1 30) + (gS (phCu (st 3)) 262144 + gS (phSB (st 16)) 400000 + gS (phSB (st 17)) 400000) ≤ (gS (phCu (st 3)) 262144 + gS (phSB (st 16)) 400000 + gS (phSB (st 17)) 400000) + 6
        unfold gS; omega
      refine lq_19 C0 (i := nI i) hi1 hi2 hf hg hk (Lc_e (eq_libraryCell hR.1.2.1 hf hg)).1 (Lc_e (eq_libraryCell hR.1.2.1 hf hg)).2 ⟨by omega, by omega⟩ (fun h' a' g' H locs ls e0 hP hD hS hl => ?_) hP hD hS hl
      rw [← e0] at hl
      exact lq_back hx hb hl (fun ls hl => ih (i + 3) h' a' _ hm am _ o g' H locs ls _ _ (by omega) (by omega) hI hJ hR2 (by omega) (by omega) hP hD hS hl)
    | 20, _ =>
      refine lv_tableIn (off := 1123) (tgt := 1162) hx hb dL_law_39 (by decide) (by decide) rfl (by decide) ?_
      obtain ⟨r, hf, hk, hI, hT⟩ := iF_map HI 
      obtain ⟨rm, hg, hJ, hU⟩ := iM_map HJ 
      have hR2 : RA (ov [(0, r.2.1), (3, r.2.2.1), (4, r.2.2.2.1), (7, r.2.2.2.2.1), (9, r.2.2.2.2.2)] st) rm.2 := rA_map HI HJ hR hf hg hT hU hI hJ
      have g3 : phCu (st 3) ≤ phCu r.2.2.1 := nF_map  (st 0) (st 3) (st 4) (st 7) (st 9) (st 12) (st 14) (st 17) r hf
      have b3 : phCu r.2.2.1 ≤ 262144 := phCu_le hI.2.2.2.1
      have hx1 := xc_le (r.2.1.1 30)
      have hb1 : gC (phCu (st 3)) (phCu r.2.2.1) + xc (r.2.1.1 30) + bud (ov [(0, r.2.1), (3, r.2.2.1), (4, r.2.2.2.1), (7, r.2.2.2.2.1), (9, r.2.2.2.2.2)] st) ≤ bud st + 1 := by
        show gC (phCu (st 3)) (phCu r.2.2.1) + xc (r.2.1.1 30) + (gC (phCu ((ov [(0, r.2.1), (3, r.2.2.1), (4, r.2.2.2.1), (7, r.2.2.2.2.1), (9, r.2.2.2.2.2)] st) 3)) 262144 + gC (phSB ((ov [(0, r.2.1), (3, r.2.2.1), (4, r.2.2.2.1), (7, r.2.2.2.2.1), (9, r.2.2.2.2.2)] st) 16)) 400000 + gC (phSB ((ov [(0, r.2.1), (3, r.2.2.1), (4, r.2.2.2.1), (7, r.2.2.2.2.1), (9, r.2.2.2.2.2)] st) 17)) 400000) ≤ (gC (phCu (st 3)) 262144 + gC (phSB (st 16)) 400000 + gC (phSB (st 17)) 400000) + 1
        show gC (phCu (st 3)) (phCu r.2.2.1) + xc (r.2.1.1 30) + (gC (phCu r.2.2.1) 262144 + gC (phSB (st 16)) 400000 + gC (phSB (st 17)) 400000) ≤ _
        unfold gC; omega
      have hb2 : gS (phCu (st 3)) (phCu r.2.2.1) + 6 * xc (r.2.1.1 30) + buS (ov [(0, r.2.1), (3, r.2.2.1), (4, r.2.2.2.1), (7, r.2.2.2.2.1), (9, r.2.2.2.2.2)] st) ≤ buS st + 6 := by
        show gS (phCu (st 3)) (phCu r.2.2.1) + 6 * xc (r.2.1.1 30) + (gS (phCu r.2.2.1) 262144 + gS (phSB (st 16)) 400000 + gS (phSB (st 17)) 400000) ≤ (gS (phCu (st 3)) 262144 + gS (phSB (st 16)) 400000 + gS (phSB (st 17)) 400000) + 6
        unfold gS; omega
      refine lq_20 C0 (i := nI i) hi1 hi2 hf hg hk (An_2 (eq_map hR.1.2.2.2.2.1 (h16_i HI.2.2.2.2.2.2.2.2.2.2.2.2.1 HI.2.2.2.2.2.2.2.2.2.2.2.2.2.2.2.2.2.2.1 HI.2.2.2.2.2.2.2.2.2.2.2.2.2.2.2.2.2.2.2.1 hR.1.2.2.2.2) (len_i HI.2.2.2.1 HI.2.2.2.2.2.2.2.2.2.2.2.2.2.2.2.2.2.2.2.2.2.2.2.1 HI.2.2.2.2.2.2.2.2.2.2.2.2.2.2.2.2.2.2.2.2.2.2.1) hR.1.2.2.2.2.2.2.2.1 hR.1.2.1 hR.2.2.2.2.1 HJ.1 HJ.2.2.2.2.2.2.2.2.2.2.2.2.2 HJ.2.2.2.2.2.2.2.1 HJ.2.2.2.2.2.2.2.2.2.2.1 HJ.2.2.2.2.2.2.2.2.2.2.2.1 HJ.2.2.2.2.2.2.2.2.2.2.2.2.1 HJ.2.2.2.2.2.2.2.2.2.1 (b6_i HI.2.2.2.2.2.2.2.1) hR.2.2.1 hf hg).1 (by decide) (by decide) (by decide)).1 (An_2 (eq_map hR.1.2.2.2.2.1 (h16_i HI.2.2.2.2.2.2.2.2.2.2.2.2.1 HI.2.2.2.2.2.2.2.2.2.2.2.2.2.2.2.2.2.2.1 HI.2.2.2.2.2.2.2.2.2.2.2.2.2.2.2.2.2.2.2.1 hR.1.2.2.2.2) (len_i HI.2.2.2.1 HI.2.2.2.2.2.2.2.2.2.2.2.2.2.2.2.2.2.2.2.2.2.2.2.1 HI.2.2.2.2.2.2.2.2.2.2.2.2.2.2.2.2.2.2.2.2.2.2.1) hR.1.2.2.2.2.2.2.2.1 hR.1.2.1 hR.2.2.2.2.1 HJ.1 HJ.2.2.2.2.2.2.2.2.2.2.2.2.2 HJ.2.2.2.2.2.2.2.1 HJ.2.2.2.2.2.2.2.2.2.2.1 HJ.2.2.2.2.2.2.2.2.2.2.2.1 HJ.2.2.2.2.2.2.2.2.2.2.2.2.1 HJ.2.2.2.2.2.2.2.2.2.1 (b6_i HI.2.2.2.2.2.2.2.1) hR.2.2.1 hf hg).1 (by decide) (by decide) (by decide)).2 ⟨by omega, by omega⟩ (fun h' a' g' H locs ls e0 hP hD hS hl => ?_) hP hD hS hl
      rw [← e0] at hl
      exact lq_back hx hb hl (fun ls hl => ih (i + 3) h' a' _ hm am _ o g' H locs ls _ _ (by omega) (by omega) hI hJ hR2 (by omega) (by omega) hP hD hS hl)
    | 21, _ =>
      refine lv_tableIn (off := 1167) (tgt := 1206) hx hb dL_law_39 (by decide) (by decide) rfl (by decide) ?_
      obtain ⟨r, hf, hk, hI, hT⟩ := iF_mapped HI (xs (nI i + 1).toNatClampNeg)
      obtain ⟨rm, hg, hJ, hU⟩ := iM_mapped HJ (xs (nI i + 1).toNatClampNeg)
      have hR2 : RA (ov [(0, r.2)] st) rm.2 := rA_mapped HI HJ hR hf hg hT hU hI hJ
      have hx1 := xc_le (r.2.1 30)
      have hb1 : 0 + xc (r.2.1 30) + bud (ov [(0, r.2)] st) ≤ bud st + 1 := by
        show 0 + xc (r.2.1 30) + (gC (phCu ((ov [(0, r.2)] st) 3)) 262144 + gC (phSB ((ov [(0, r.2)] st) 16)) 400000 + gC (phSB ((ov [(0, r.2)] st) 17)) 400000) ≤ (gC (phCu (st 3)) 262144 + gC (phSB (st 16)) 400000 + gC (phSB (st 17)) 400000) + 1
        show 0 + xc (r.2.1 30) + (gC (phCu (st 3)) 262144 + gC (phSB (st 16)) 400000 + gC (phSB (st 17)) 400000) ≤ _
        unfold gC; omega
      have hb2 : 0 + 6 * xc (r.2.1 30) + buS (ov [(0, r.2)] st) ≤ buS st + 6 := by
        show 0 + 6 * xc (r.2.1 30) + (gS (phCu (st 3)) 262144 + gS (phSB (st 16)) 400000 + gS (phSB (st 17)) 400000) ≤ (gS (phCu (st 3)) 262144 + gS (phSB (st 16)) 400000 + gS (phSB (st 17)) 400000) + 6
        unfold gS; omega
      refine lq_21 C0 (i := nI i) hi1 hi2 hf hg hk (An_2 (eq_mapped (fun e => hG_o (h16_i HI.2.2.2.2.2.2.2.2.2.2.2.2.1 HI.2.2.2.2.2.2.2.2.2.2.2.2.2.2.2.2.2.2.1 HI.2.2.2.2.2.2.2.2.2.2.2.2.2.2.2.2.2.2.2.1 hR.1.2.2.2.2) (hR.2.2.2.2.2 e)) hR.2.2.1 hf hg) (by decide) (by decide) (by decide)).1 (An_2 (eq_mapped (fun e => hG_o (h16_i HI.2.2.2.2.2.2.2.2.2.2.2.2.1 HI.2.2.2.2.2.2.2.2.2.2.2.2.2.2.2.2.2.2.1 HI.2.2.2.2.2.2.2.2.2.2.2.2.2.2.2.2.2.2.2.1 hR.1.2.2.2.2) (hR.2.2.2.2.2 e)) hR.2.2.1 hf hg) (by decide) (by decide) (by decide)).2 ⟨by omega, by omega⟩ (fun h' a' g' H locs ls e0 hP hD hS hl => ?_) hP hD hS hl
      rw [← e0] at hl
      exact lq_back hx hb hl (fun ls hl => ih (i + 3) h' a' _ hm am _ o g' H locs ls _ _ (by omega) (by omega) hI hJ hR2 (by omega) (by omega) hP hD hS hl)
    | 22, _ =>
      refine lv_tableIn (off := 1223) (tgt := 1262) hx hb dL_law_39 (by decide) (by decide) rfl (by decide) ?_
      obtain ⟨r, hf, hk, hI, hT⟩ := iF_instance HI (xs (nI i + 1).toNatClampNeg) (xs (nI i + 2).toNatClampNeg)
      obtain ⟨rm, hg, hJ, hU⟩ := iM_instance HJ (xs (nI i + 1).toNatClampNeg) (xs (nI i + 2).toNatClampNeg)
      have hR2 : RA (ov [(0, r.2)] st) rm.2 := rA_instance HI HJ hR hf hg hT hU hI hJ
      have hx1 := xc_le (r.2.1 30)
      have hb1 : 0 + xc (r.2.1 30) + bud (ov [(0, r.2)] st) ≤ bud st + 1 := by
        show 0 + xc (r.2.1 30) + (gC (phCu ((ov [(0, r.2)] st) 3)) 262144 + gC (phSB ((ov [(0, r.2)] st) 16)) 400000 + gC (phSB ((ov [(0, r.2)] st) 17)) 400000) ≤ (gC (phCu (st 3)) 262144 + gC (phSB (st 16)) 400000 + gC (phSB (st 17)) 400000) + 1
        show 0 + xc (r.2.1 30) + (gC (phCu (st 3)) 262144 + gC (phSB (st 16)) 400000 + gC (phSB (st 17)) 400000) ≤ _
        unfold gC; omega
      have hb2 : 0 + 6 * xc (r.2.1 30) + buS (ov [(0, r.2)] st) ≤ buS st + 6 := by
        show 0 + 6 * xc (r.2.1 30) + (gS (phCu (st 3)) 262144 + gS (phSB (st 16)) 400000 + gS (phSB (st 17)) 400000) ≤ (gS (phCu (st 3)) 262144 + gS (phSB (st 16)) 400000 + gS (phSB (st 17)) 400000) + 6
        unfold gS; omega
      refine lq_22 C0 (i := nI i) hi1 hi2 hf hg hk (An_3 (eq_instance (fun e => hG_o (h16_i HI.2.2.2.2.2.2.2.2.2.2.2.2.1 HI.2.2.2.2.2.2.2.2.2.2.2.2.2.2.2.2.2.2.1 HI.2.2.2.2.2.2.2.2.2.2.2.2.2.2.2.2.2.2.2.1 hR.1.2.2.2.2) (hR.2.2.2.2.2 e)) hR.2.2.1 hf hg) (by decide) (by decide) (by decide) (by decide) (by decide) (by decide)).1 (An_3 (eq_instance (fun e => hG_o (h16_i HI.2.2.2.2.2.2.2.2.2.2.2.2.1 HI.2.2.2.2.2.2.2.2.2.2.2.2.2.2.2.2.2.2.1 HI.2.2.2.2.2.2.2.2.2.2.2.2.2.2.2.2.2.2.2.1 hR.1.2.2.2.2) (hR.2.2.2.2.2 e)) hR.2.2.1 hf hg) (by decide) (by decide) (by decide) (by decide) (by decide) (by decide)).2 ⟨by omega, by omega⟩ (fun h' a' g' H locs ls e0 hP hD hS hl => ?_) hP hD hS hl
      rw [← e0] at hl
      exact lq_back hx hb hl (fun ls hl => ih (i + 3) h' a' _ hm am _ o g' H locs ls _ _ (by omega) (by omega) hI hJ hR2 (by omega) (by omega) hP hD hS hl)
    | 23, _ =>
      refine lv_tableIn (off := 1291) (tgt := 1330) hx hb dL_law_39 (by decide) (by decide) rfl (by decide) ?_
      obtain ⟨r, hf, hk, hI, hT⟩ := iF_mappedSign HI (xs (nI i + 1).toNatClampNeg)
      obtain ⟨rm, hg, hJ, hU⟩ := iM_mappedSign HJ (xs (nI i + 1).toNatClampNeg)
      have hR2 : RA (ov [(0, r.2.1), (9, r.2.2.1), (17, r.2.2.2)] st) rm.2 := rA_mappedSign HI HJ hR hf hg hT hU hI hJ
      have g17 : phSB (st 17) ≤ phSB r.2.2.2 := nF_mappedSign (xs (nI i + 1).toNatClampNeg) (st 0) (st 7) (st 9) (st 10) (st 12) (st 14) (st 17) r hf
      have b17 : phSB r.2.2.2 ≤ 400000 := phSB_le hI.2.2.2.2.2.2.2.2.2.2.2.2.2.2.2.2.2.1
      have hx1 := xc_le (r.2.1.1 30)
      have hb1 : gC (phSB (st 17)) (phSB r.2.2.2) + xc (r.2.1.1 30) + bud (ov [(0, r.2.1), (9, r.2.2.1), (17, r.2.2.2)] st) ≤ bud st + 1 := by
        show gC (phSB (st 17)) (phSB r.2.2.2) + xc (r.2.1.1 30) + (gC (phCu ((ov [(0, r.2.1), (9, r.2.2.1), (17, r.2.2.2)] st) 3)) 262144 + gC (phSB ((ov [(0, r.2.1), (9, r.2.2.1), (17, r.2.2.2)] st) 16)) 400000 + gC (phSB ((ov [(0, r.2.1), (9, r.2.2.1), (17, r.2.2.2)] st) 17)) 400000) ≤ (gC (phCu (st 3)) 262144 + gC (phSB (st 16)) 400000 + gC (phSB (st 17)) 400000) + 1
        show gC (phSB (st 17)) (phSB r.2.2.2) + xc (r.2.1.1 30) + (gC (phCu (st 3)) 262144 + gC (phSB (st 16)) 400000 + gC (phSB r.2.2.2) 400000) ≤ _
        unfold gC; omega
      have hb2 : gS (phSB (st 17)) (phSB r.2.2.2) + 6 * xc (r.2.1.1 30) + buS (ov [(0, r.2.1), (9, r.2.2.1), (17, r.2.2.2)] st) ≤ buS st + 6 := by
        show gS (phSB (st 17)) (phSB r.2.2.2) + 6 * xc (r.2.1.1 30) + (gS (phCu (st 3)) 262144 + gS (phSB (st 16)) 400000 + gS (phSB r.2.2.2) 400000) ≤ (gS (phCu (st 3)) 262144 + gS (phSB (st 16)) 400000 + gS (phSB (st 17)) 400000) + 6
        unfold gS; omega
      refine lq_23 C0 (i := nI i) hi1 hi2 hf hg hk (An_2 (eq_mappedSign (fun e => hG_o (h16_i HI.2.2.2.2.2.2.2.2.2.2.2.2.1 HI.2.2.2.2.2.2.2.2.2.2.2.2.2.2.2.2.2.2.1 HI.2.2.2.2.2.2.2.2.2.2.2.2.2.2.2.2.2.2.2.1 hR.1.2.2.2.2) (hR.2.2.2.2.2 e)) hR.2.2.1 (fun e => hR.2.1.2.2.2.1 (hR.2.2.2.2.2 e)) hR.1.2.2.1 hR.2.2.2.1 hf hg).1 (by decide) (by decide) (by decide)).1 (An_2 (eq_mappedSign (fun e => hG_o (h16_i HI.2.2.2.2.2.2.2.2.2.2.2.2.1 HI.2.2.2.2.2.2.2.2.2.2.2.2.2.2.2.2.2.2.1 HI.2.2.2.2.2.2.2.2.2.2.2.2.2.2.2.2.2.2.2.1 hR.1.2.2.2.2) (hR.2.2.2.2.2 e)) hR.2.2.1 (fun e => hR.2.1.2.2.2.1 (hR.2.2.2.2.2 e)) hR.1.2.2.1 hR.2.2.2.1 hf hg).1 (by decide) (by decide) (by decide)).2 ⟨by omega, by omega⟩ (fun h' a' g' H locs ls e0 hP hD hS hl => ?_) hP hD hS hl
      rw [← e0] at hl
      exact lq_back hx hb hl (fun ls hl => ih (i + 3) h' a' _ hm am _ o g' H locs ls _ _ (by omega) (by omega) hI hJ hR2 (by omega) (by omega) hP hD hS hl)
    | 24, _ =>
      refine lv_tableOut (tgt := 1386) hx hb dL_law_39 (by decide) (by decide) ?_
      exact lq_back hx hb hl (fun ls hl => ih (i + 3) h a st hm am om o g H locs ls _ _ (by omega) (by omega) HI HJ hR (by omega) (by omega) hP hD hS hl)
    | 25, _ =>
      refine lv_tableOut (tgt := 1386) hx hb dL_law_39 (by decide) (by decide) ?_
      exact lq_back hx hb hl (fun ls hl => ih (i + 3) h a st hm am om o g H locs ls _ _ (by omega) (by omega) HI HJ hR (by omega) (by omega) hP hD hS hl)
    | 26, _ =>
      refine lv_tableOut (tgt := 1386) hx hb dL_law_39 (by decide) (by decide) ?_
      exact lq_back hx hb hl (fun ls hl => ih (i + 3) h a st hm am om o g H locs ls _ _ (by omega) (by omega) HI HJ hR (by omega) (by omega) hP hD hS hl)
    | 27, _ =>
      refine lv_tableOut (tgt := 1386) hx hb dL_law_39 (by decide) (by decide) ?_
      exact lq_back hx hb hl (fun ls hl => ih (i + 3) h a st hm am om o g H locs ls _ _ (by omega) (by omega) HI HJ hR (by omega) (by omega) hP hD hS hl)
    | 28, _ =>
      refine lv_tableOut (tgt := 1386) hx hb dL_law_39 (by decide) (by decide) ?_
      exact lq_back hx hb hl (fun ls hl => ih (i + 3) h a st hm am om o g H locs ls _ _ (by omega) (by omega) HI HJ hR (by omega) (by omega) hP hD hS hl)
    | 29, _ =>
      refine lv_tableOut (tgt := 1386) hx hb dL_law_39 (by decide) (by decide) ?_
      exact lq_back hx hb hl (fun ls hl => ih (i + 3) h a st hm am om o g H locs ls _ _ (by omega) (by omega) HI HJ hR (by omega) (by omega) hP hD hS hl)
    | 30, _ =>
      refine lv_tableOut (tgt := 1386) hx hb dL_law_39 (by decide) (by decide) ?_
      exact lq_back hx hb hl (fun ls hl => ih (i + 3) h a st hm am om o g H locs ls _ _ (by omega) (by omega) HI HJ hR (by omega) (by omega) hP hD hS hl)
    | 31, _ =>
      refine lv_tableOut (tgt := 1386) hx hb dL_law_39 (by decide) (by decide) ?_
      exact lq_back hx hb hl (fun ls hl => ih (i + 3) h a st hm am om o g H locs ls _ _ (by omega) (by omega) HI HJ hR (by omega) (by omega) hP hD hS hl)
    | k + 32, hj => exact absurd hj (by omega)
