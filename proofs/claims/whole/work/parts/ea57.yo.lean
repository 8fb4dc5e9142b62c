theorem full_b : ∀ s : Nat, s < 4 → 2 ≤ s → ∃ q : Int32, fCo_full (Int32.ofNat s) = some q ∧ ∀ i : Nat, i < 32 → bt q i = decide (i < 2 ^ s) := by
  intro s h4 h2
  rcases (show s = 2 ∨ s = 3 by omega) with e | e
  · subst e; exact ⟨15, by decide +kernel, by decide +kernel⟩
  · subst e; exact ⟨255, by decide +kernel, by decide +kernel⟩
theorem LtF_0 {W : Nat → Nat → Bool} {g : Nat} : LtF W (2 * g) = W g := by
  funext i
  unfold LtF
  rw [show 2 * g / 2 = g by omega, decide_eq_false (by omega), Bool.xor_false]
theorem LtF_1 {W : Nat → Nat → Bool} {g : Nat} : LtF W (2 * g + 1) = fun i => !W g i := by
  funext i
  unfold LtF
  rw [show (2 * g + 1) / 2 = g by omega, decide_eq_true (by omega), Bool.xor_true]
def PnS (b n c : Nat) (gr li MP : cf_O) (acc : List (List Nat)) (l x : Nat) : Prop := ∃ a ∈ acc, ∃ cl : Nat, cl < c ∧ CwS b n gr (faL li) (mtW (wvM MP)) (upL a) cl l x
theorem fpl_go {b n g c w0 : Nat} {acc : List (List Nat)} {v2 : Int32} {gr cu li MP : cf_O} (G : GW b n gr) (g1 : b ≤ g) (g2 : g < b + n) (e2 : v2.toInt = (g : Int)) (hF : FcQ c (faL li)) (LW : ∃ m : Nat, LwQ li m (DwS li c 0)) (hw : w0 ≤ 65000) (hl : acc.length ≤ 300) (R : RowE cu w0 acc) (fa : ∀ l ∈ acc, Fall g l ∧ 2 ≤ l.length ∧ l.length ≤ 3) (cv : ∀ l ∈ acc, CvG b gr (upL l) g) (he : (cu.2.1 2 (g + 1)).toInt = ((w0 + acc.length : Nat) : Int)) (T : TmbQ MP g) : ∀ (f k : Nat) (v6 : Int32) (mp co : cf_O) (r : cf_O × cf_O), v6.toInt = ((w0 + k : Nat) : Int) → k ≤ acc.length → Fr (fr_M [] [] [5]) MP mp → (∀ l : Nat, l / 2 = g → MnQ (nv (mp.2.2 5 l)) (PnS b n c gr li MP (acc.take k) l)) → gMp_findPlain f 0 v2 v6 mp gr cu co li = some r → Fr (fr_M [] [] [5]) MP r.1 ∧ ∀ l : Nat, l / 2 = g → MnQ (nv (r.1.2.2 5 l)) (PnS b n c gr li MP acc l)
  | 0, k, v6, mp, co, r, e6, kl, fo, N, h => by cases h
  | f + 1, k, v6, mp, co, r, e6, kl, fo, N, h => by
    have G0 := G.1
    have h : fMp_findPlain_7 (gMp_findPlain f) v2 v6 mp gr cu co li = some r := h
    unfold fMp_findPlain_7 at h
    obtain ⟨q, hq, h⟩ := bd h
    have eq : q = cu.2.1 2 (g + 1) := by
      unfold fCu_behindLastOf fCu_behindLastOf_0 at hq
      rw [opk] at hq
      rcases ifc hq with ⟨_, hq⟩ | ⟨_, hq⟩
      · cases hq
      rw [opk, tW (v := v2 + 1) (n := g + 1) (by rw [pW (by omega) (by omega)]; omega)] at hq
      exact (Option.some.inj hq).symm
    rcases ifc h with ⟨a, h⟩ | ⟨a, h⟩
    · have a := c_le a
      rw [eq] at a
      rw [List.take_of_length_le (by omega)] at N
      rw [← Option.some.inj h]; exact ⟨fo, N⟩
    · have a := c_nle a
      rw [eq] at a
      have kl2 : k < acc.length := by omega
      have ek : acc[k]? = some acc[k] := List.getElem?_eq_getElem kl2
      have mem := List.getElem_mem kl2
      have fk := fa _ mem
      have rk := (R k _ ek).1
      have et : acc.take (k + 1) = acc.take k ++ [acc[k]] := by rw [List.take_add_one, ek]; rfl
      obtain ⟨c5, hc, h⟩ := bd h
      have ec : c5 = cu.2.2 4 (w0 + k) := by
        unfold fCu_cutAt fCu_cutAt_0 at hc
        rcases ifc hc with ⟨_, hc⟩ | ⟨_, hc⟩
        · cases hc
        rw [opk, tW e6] at hc
        exact (Option.some.inj hc).symm
      rw [← ec] at rk
      obtain ⟨u, hu, h⟩ := bd h
      obtain ⟨W, hV⟩ := CV_ex (b := b) (n := n) G (up_sd fk.1)
      obtain ⟨⟨o1, o2, o3, _⟩, _⟩ := cone_sp G g2 rk fk.1 (by omega) (by omega) (cv _ mem) hV e2 hu
      have ul : (upL acc[k]).length = acc[k].length := by unfold upL; rw [List.length_reverse, List.length_map]
      have hz : ∀ z ∈ upL acc[k], 1 ≤ z ∧ z < (g : Int) := fun z hz => by
        unfold upL at hz
        obtain ⟨y, hy, ey⟩ := List.mem_map.mp (List.mem_reverse.mp hz)
        have := Fall_lt fk.1 hy
        omega
      obtain ⟨fu, hfu, hfb⟩ := full_b (upL acc[k]).length (by omega) (by omega)
      obtain ⟨q10, h10, h⟩ := bd h
      rw [on_i o1, hfu] at h10
      have e10 := Option.some.inj h10
      subst e10
      rw [opk, opk, opk] at h
      have m2 := mul2 e2 (show g < 100000 by omega)
      have a2 : (2 * v2 + 1).toInt = ((2 * g + 1 : Nat) : Int) := addk (k := 1) m2 rfl (by omega) (by decide)
      have h := (ifn h).2
      rw [opk, tW m2] at h
      obtain ⟨q18, h18, h⟩ := bd h
      have Tm : TmbQ mp g := by unfold TmbQ; rw [fo.2.2 4 rfl]; exact T
      have X0 : LmX g c (upL acc[k]) (LtF W (2 * g)) (u.1 1) mp u li := ⟨by unfold TmbQ; rw [fo.2.2 4 rfl]; exact T, by omega, by omega, hz, o2, o1, by rw [LtF_0]; exact o3, hF, LW⟩
      have N18 := least_sp X0 h18
      rw [opk] at h
      have h := (ifn h).2
      rw [opk, opk, opk, opk, opk] at h
      have h := (ifn h).2
      rw [opk, tW a2] at h
      obtain ⟨q30, h30, h⟩ := bd h
      have X1 : LmX g c (upL acc[k]) (LtF W (2 * g + 1)) (u.1 1 ^^^ fu) (yp mp 5 (2 * g) (op_mnl (mp.2.2 5 (2 * g)) q18)) u li := by
        refine ⟨fun x x2 xm => Tm x x2 xm, by omega, by omega, hz, o2, o1, fun j hj => ?_, hF, LW⟩
        rw [LtF_1, bt_xr, o3 j hj, hfb j hj]
        show _ = (decide (j < 2 ^ (upL acc[k]).length) && !W g j)
        cases decide (j < 2 ^ (upL acc[k]).length) <;> cases W g j <;> rfl
      have N30 := least_sp X1 h30
      rw [opk] at h
      have h := (ifn h).2
      rw [opk, opk] at h
      have em : mp.2.2 4 = MP.2.2 4 := fo.2.2 4 rfl
      have ws : ∀ (l : Nat) (mq : cf_O), l / 2 = g → mq.2.2 4 = MP.2.2 4 → ∀ x : Nat, (∃ cl : Nat, WyS c (upL acc[k]) (LtF W l) mq li cl x) ↔ ∃ cl : Nat, cl < c ∧ CwS b n gr (faL li) (mtW (wvM MP)) (upL acc[k]) cl l x := fun l mq hl' emq x => by
        have ew : wvM mq = wvM MP := by funext y; show nv (mq.2.2 4 y) = nv (MP.2.2 4 y); rw [emq]
        constructor
        · rintro ⟨cl, y1, y2, y3⟩
          rw [ew] at y3
          exact ⟨cl, y1, (CwS_w G hV (by rw [(faL_0 (li := li) (i := cl)).2.2.1]; exact y2) (by omega)).mp y3⟩
        · rintro ⟨cl, y1, y3⟩
          have y2 : (faL li (4 * cl + 2)).toInt = ((upL acc[k]).length : Int) := by obtain ⟨_, _, y, _⟩ := y3; exact y
          refine ⟨cl, y1, by rw [← (faL_0 (li := li) (i := cl)).2.2.1]; exact y2, ?_⟩
          rw [ew]
          exact (CwS_w G hV y2 (by omega)).mpr y3
      have ps : ∀ l x : Nat, (PnS b n c gr li MP (acc.take k) l x ∨ ∃ cl : Nat, cl < c ∧ CwS b n gr (faL li) (mtW (wvM MP)) (upL acc[k]) cl l x) ↔ PnS b n c gr li MP (acc.take (k + 1)) l x := fun l x => by
        unfold PnS
        rw [et]
        constructor
        · rintro (⟨a, ha, y⟩ | y)
          · exact ⟨a, List.mem_append_left _ ha, y⟩
          · exact ⟨_, List.mem_append_right _ (List.mem_singleton.mpr rfl), y⟩
        · rintro ⟨a, ha, y⟩
          rcases List.mem_append.mp ha with q | q
          · exact Or.inl ⟨a, q, y⟩
          · rw [List.mem_singleton.mp q] at y; exact Or.inr y
      have lt63 : ∀ v : Nat, v ≤ NOM → v < 2 ^ 63 := fun v hv => by unfold NOM at hv; omega
      have n0 := N (2 * g) (by omega)
      have n1 := N (2 * g + 1) (by omega)
      have r0 : nv (op_mnl (mp.2.2 5 (2 * g)) q18) = min (nv (mp.2.2 5 (2 * g))) (nv q18) := mnl_n (lt63 _ (MnQ_n n0)) (lt63 _ (MnQ_n N18))
      have x1 : (yp mp 5 (2 * g) (op_mnl (mp.2.2 5 (2 * g)) q18)).2.2 5 (2 * g + 1) = mp.2.2 5 (2 * g + 1) := uL_o (by omega)
      have r1 : nv (op_mnl (mp.2.2 5 (2 * g + 1)) q30) = min (nv (mp.2.2 5 (2 * g + 1))) (nv q30) := mnl_n (lt63 _ (MnQ_n n1)) (lt63 _ (MnQ_n N30))
      rw [x1] at h
      refine fpl_go G g1 g2 e2 hF LW hw hl R fa cv he T f (k + 1) (v6 + 1) _ _ r (by rw [pW (by omega) (by omega)]; omega) (by omega) (fr_yp (fr_yp fo rfl) rfl) (fun l hl' => ?_) h
      show MnQ (nv (vp_updL (vp_updL (mp.2.2 5) (2 * g) (op_mnl (mp.2.2 5 (2 * g)) q18)) (2 * g + 1) (op_mnl (mp.2.2 5 (2 * g + 1)) q30) l)) _
      rcases (show l = 2 * g ∨ l = 2 * g + 1 by omega) with e | e
      · subst e
        rw [uL_o (by omega), uL_s, r0]
        refine MnQ_e (MnQ_m n0 N18) (fun x => ?_)
        rw [← ps, ws _ _ (by omega) em]
      · subst e
        rw [uL_s, r1]
        refine MnQ_e (MnQ_m n1 N30) (fun x => ?_)
        rw [← ps, ws _ _ (by omega) (show (yp mp 5 (2 * g) (op_mnl (mp.2.2 5 (2 * g)) q18)).2.2 4 = MP.2.2 4 from em)]
theorem madeBy_sp {l c : Nat} {mp li : cf_O} {v1 : Int32} {r : Int64} (hF : FcQ c (faL li)) (iv : li.1 1 = ivI (ivN (faL li) c)) (e1 : v1.toInt = (l : Int)) (hl : l < 418) (n1 : nv (mp.2.2 5 l) ≤ NOM) (n2 : nv (mp.2.2 5 (opN l)) ≤ NOM) (t2 : ¬ nv (mp.2.2 5 (opN l)) = NOM → nv (mp.2.2 5 (opN l)) / 2 ^ 44 ≤ 50000) (h : fMp_madeBy v1 mp li = some r) : (nv (mp.2.2 5 l) = 0 ∧ nv r = 0) ∨ (¬ nv (mp.2.2 5 l) = 0 ∧ nv r = mkW (faL li) (nv (mp.2.2 5 l)) (opO false (nv (mp.2.2 5 (opN l)))) c l) := by
  have ex : (v1 ^^^ 1).toInt = (opN l : Int) := by
    have := op_i l (by omega)
    rw [← on_i e1] at this; exact this
  have ol := (opN_2 (l := l)).2.2.1
  unfold fMp_madeBy fMp_madeBy_0 fMp_madeBy_40 fMp_madeBy_87 at h
  have h := (ifn h).2
  rw [opk, tW e1, opk] at h
  have h := (ifn h).2
  rw [opk, tW ex, opk] at h
  rcases ifc h with ⟨a, h⟩ | ⟨a, h⟩
  · have a := (lg_cmp_eq _ _).mp a
    exact Or.inl ⟨by rw [a]; rfl, by rw [← Option.some.inj h, a]; rfl⟩
  · have a : ¬ nv (mp.2.2 5 l) = 0 := fun q => a ((lg_cmp_eq _ _).mpr (nv_inj q))
    refine Or.inr ⟨a, ?_⟩
    rw [opk] at h
    rcases ifc h with ⟨d, h⟩ | ⟨d, h⟩
    · have d := (lg_cmp_eq _ _).mp d
      have eo : opO false (nv (mp.2.2 5 (opN l))) = none := by unfold opO; rw [if_neg (by decide), if_pos (by rw [d]; rfl)]
      rw [eo, mkW_n, ← Option.some.inj h]
    · have d : ¬ nv (mp.2.2 5 (opN l)) = NOM := fun q => d ((lg_cmp_eq _ _).mpr (nv_inj q))
      have eo : opO false (nv (mp.2.2 5 (opN l))) = some (nv (mp.2.2 5 (opN l)) / 2 ^ 44) := by unfold opO; rw [if_neg (by decide), if_neg d]
      rw [eo]
      cases ei : ivN (faL li) c with
      | none =>
        rw [ei] at iv
        rw [if_pos (show li.1 1 = -1 from iv)] at h
        rw [mkW_0 ei, ← Option.some.inj h]
      | some j =>
        rw [ei] at iv
        have jl := (ivN_l ei).1
        have c12 := hF.1
        have iv : li.1 1 = Int32.ofNat j := iv
        have ej : (li.1 1).toInt = (j : Int) := by rw [iv, Int32.toInt_ofNat_of_lt (by omega)]
        rw [if_neg (fun z => by have z := c_eq z; rw [ej, show ((-1 : Int32)).toInt = -1 from rfl] at z; omega), opk, opk, opk] at h
        obtain ⟨q14, h14, h⟩ := bd h
        have e14 := time_f h14 (by unfold NOM at n2; omega)
        obtain ⟨q17, h17, h⟩ := bd h
        have F := hF.2 j jl
        have f0 := faL_0 (li := li) (i := j)
        rw [f0.1, f0.2.1, f0.2.2.1, f0.2.2.2] at F
        have e13 : nv ((v1 ^^^ 1).toInt64 <<< ((20 : Int32).toInt64 &&& 63)) = opN l * 2 ^ 20 := by
          rw [nv_shl (k := 20) (by decide), nv_32 (by omega), ex, show ((opN l : Int)).toNat = opN l from rfl]; omega
        have tt := t2 d
        have pf := pack_f (C := j) (T := nv (mp.2.2 5 (opN l)) / 2 ^ 44) (D := (li.2.1 4 j).toInt.toNat) (A := (li.2.1 3 j).toInt.toNat) h17 (by rw [e13]; omega) ej (by omega) e14 (by omega) (by omega) (by omega) (by omega) (by omega)
        have et : nv q17 = tnV (faL li) j (nv (mp.2.2 5 (opN l)) / 2 ^ 44) l := by rw [pf, e13, tnV_e, f0.1, f0.2.1]
        have l17 : nv q17 < 2 ^ 63 := by
          rw [pf, e13]; omega
        rw [opk, opk, opk] at h
        have s34 : ∀ z : Int64, nv ((z.toUInt64 >>> ((34 : Int32).toInt64.toUInt64 &&& Int64.toUInt64 63)).toInt64) = nv z / 2 ^ 34 := fun z => nv_shr (k := 34) (by decide)
        rw [mkW_1 ei, ← et]
        rcases ifc h with ⟨y, h⟩ | ⟨y, h⟩
        · have y := (lgc_n (by rw [s34]; omega) (by rw [s34]; unfold NOM at n1; omega)).mp y
          rw [s34, s34] at y
          rw [pick_g (by omega), ← Option.some.inj h]
        · have y : ¬ nv (mp.2.2 5 l) / 2 ^ 34 ≤ nv q17 / 2 ^ 34 := fun w => y ((lgc_n (by rw [s34]; omega) (by rw [s34]; unfold NOM at n1; omega)).mpr (by rw [s34, s34]; exact w))
          rw [pick_l (by omega), ← Option.some.inj h]
