def yM_put : MethodName := ⟨"CellForgeModel", "put", "(I)I"⟩
abbrev cM_put : ByteArray := prog_14_method_5_code
theorem dM_put_0 : decode cM_put 0 = .ok (.iconst 0, 1) := by decide +kernel
theorem dM_put_1 : decode cM_put 1 = .ok (.istore_n 2, 1) := by decide +kernel
theorem dM_put_2 : decode cM_put 2 = .ok (.iconst 1, 1) := by decide +kernel
theorem dM_put_3 : decode cM_put 3 = .ok (.istore_n 3, 1) := by decide +kernel
theorem dM_put_4 : decode cM_put 4 = .ok (.iconst 0, 1) := by decide +kernel
theorem dM_put_5 : decode cM_put 5 = .ok (.istore 4, 2) := by decide +kernel
theorem dM_put_7 : decode cM_put 7 = .ok (.iload 4, 2) := by decide +kernel
theorem dM_put_9 : decode cM_put 9 = .ok (.iconst 4, 1) := by decide +kernel
theorem dM_put_10 : decode cM_put 10 = .ok (.if_icmp .ge 69, 3) := by decide +kernel
theorem dM_put_13 : decode cM_put 13 = .ok (.iload_n 1, 1) := by decide +kernel
theorem dM_put_14 : decode cM_put 14 = .ok (.bipush 8, 2) := by decide +kernel
theorem dM_put_16 : decode cM_put 16 = .ok (.iload 4, 2) := by decide +kernel
theorem dM_put_18 : decode cM_put 18 = .ok (.imul, 1) := by decide +kernel
theorem dM_put_19 : decode cM_put 19 = .ok (.ishr, 1) := by decide +kernel
theorem dM_put_20 : decode cM_put 20 = .ok (.sipush 255, 3) := by decide +kernel
theorem dM_put_23 : decode cM_put 23 = .ok (.iand, 1) := by decide +kernel
theorem dM_put_24 : decode cM_put 24 = .ok (.istore 5, 2) := by decide +kernel
theorem dM_put_26 : decode cM_put 26 = .ok (.iload_n 3, 1) := by decide +kernel
theorem dM_put_27 : decode cM_put 27 = .ok (.ifCond .eq 31, 3) := by decide +kernel
theorem dM_put_30 : decode cM_put 30 = .ok (.iload 5, 2) := by decide +kernel
theorem dM_put_32 : decode cM_put 32 = .ok (.ifCond .eq 22, 3) := by decide +kernel
theorem dM_put_35 : decode cM_put 35 = .ok (.iload 5, 2) := by decide +kernel
theorem dM_put_37 : decode cM_put 37 = .ok (.bipush 10, 2) := by decide +kernel
theorem dM_put_39 : decode cM_put 39 = .ok (.if_icmp .eq 15, 3) := by decide +kernel
theorem dM_put_42 : decode cM_put 42 = .ok (.iload 5, 2) := by decide +kernel
theorem dM_put_44 : decode cM_put 44 = .ok (.bipush 32, 2) := by decide +kernel
theorem dM_put_46 : decode cM_put 46 = .ok (.bipush 126, 2) := by decide +kernel
theorem dM_put_48 : decode cM_put 48 = .ok (.invokestatic 228, 3) := by decide +kernel
theorem dM_put_51 : decode cM_put 51 = .ok (.ifCond .eq 7, 3) := by decide +kernel
theorem dM_put_54 : decode cM_put 54 = .ok (.iconst 1, 1) := by decide +kernel
theorem dM_put_55 : decode cM_put 55 = .ok (.goto 4, 3) := by decide +kernel
theorem dM_put_58 : decode cM_put 58 = .ok (.iconst 0, 1) := by decide +kernel
theorem dM_put_59 : decode cM_put 59 = .ok (.istore_n 3, 1) := by decide +kernel
theorem dM_put_60 : decode cM_put 60 = .ok (.iload 5, 2) := by decide +kernel
theorem dM_put_62 : decode cM_put 62 = .ok (.ifCond .le 9, 3) := by decide +kernel
theorem dM_put_65 : decode cM_put 65 = .ok (.iload_n 2, 1) := by decide +kernel
theorem dM_put_66 : decode cM_put 66 = .ok (.iconst 1, 1) := by decide +kernel
theorem dM_put_67 : decode cM_put 67 = .ok (.iadd, 1) := by decide +kernel
theorem dM_put_68 : decode cM_put 68 = .ok (.goto 4, 3) := by decide +kernel
theorem dM_put_71 : decode cM_put 71 = .ok (.iload_n 2, 1) := by decide +kernel
theorem dM_put_72 : decode cM_put 72 = .ok (.istore_n 2, 1) := by decide +kernel
theorem dM_put_73 : decode cM_put 73 = .ok (.iinc 4 1, 3) := by decide +kernel
theorem dM_put_76 : decode cM_put 76 = .ok (.goto (-69), 3) := by decide +kernel
theorem dM_put_79 : decode cM_put 79 = .ok (.aload_n 0, 1) := by decide +kernel
theorem dM_put_80 : decode cM_put 80 = .ok (.iload_n 3, 1) := by decide +kernel
theorem dM_put_81 : decode cM_put 81 = .ok (.ifCond .ne 7, 3) := by decide +kernel
theorem dM_put_84 : decode cM_put 84 = .ok (.iconst 1, 1) := by decide +kernel
theorem dM_put_85 : decode cM_put 85 = .ok (.goto 4, 3) := by decide +kernel
theorem dM_put_88 : decode cM_put 88 = .ok (.iconst 0, 1) := by decide +kernel
theorem dM_put_89 : decode cM_put 89 = .ok (.aload_n 0, 1) := by decide +kernel
theorem dM_put_90 : decode cM_put 90 = .ok (.getfield 232, 3) := by decide +kernel
theorem dM_put_93 : decode cM_put 93 = .ok (.iload_n 2, 1) := by decide +kernel
theorem dM_put_94 : decode cM_put 94 = .ok (.iadd, 1) := by decide +kernel
theorem dM_put_95 : decode cM_put 95 = .ok (.sipush 1600, 3) := by decide +kernel
theorem dM_put_98 : decode cM_put 98 = .ok (.if_icmp .le 7, 3) := by decide +kernel
theorem dM_put_101 : decode cM_put 101 = .ok (.iconst 1, 1) := by decide +kernel
theorem dM_put_102 : decode cM_put 102 = .ok (.goto 4, 3) := by decide +kernel
theorem dM_put_105 : decode cM_put 105 = .ok (.iconst 0, 1) := by decide +kernel
theorem dM_put_106 : decode cM_put 106 = .ok (.iconst 0, 1) := by decide +kernel
theorem dM_put_107 : decode cM_put 107 = .ok (.invokevirtual 235, 3) := by decide +kernel
theorem dM_put_110 : decode cM_put 110 = .ok (.ifCond .eq 5, 3) := by decide +kernel
theorem dM_put_113 : decode cM_put 113 = .ok (.iconst 0, 1) := by decide +kernel
theorem dM_put_114 : decode cM_put 114 = .ok (.ireturn, 1) := by decide +kernel
theorem dM_put_115 : decode cM_put 115 = .ok (.iconst 0, 1) := by decide +kernel
theorem dM_put_116 : decode cM_put 116 = .ok (.istore 4, 2) := by decide +kernel
theorem dM_put_118 : decode cM_put 118 = .ok (.iload 4, 2) := by decide +kernel
theorem dM_put_120 : decode cM_put 120 = .ok (.iconst 4, 1) := by decide +kernel
theorem dM_put_121 : decode cM_put 121 = .ok (.if_icmp .ge 48, 3) := by decide +kernel
theorem dM_put_124 : decode cM_put 124 = .ok (.iload_n 1, 1) := by decide +kernel
theorem dM_put_125 : decode cM_put 125 = .ok (.bipush 8, 2) := by decide +kernel
theorem dM_put_127 : decode cM_put 127 = .ok (.iload 4, 2) := by decide +kernel
theorem dM_put_129 : decode cM_put 129 = .ok (.imul, 1) := by decide +kernel
theorem dM_put_130 : decode cM_put 130 = .ok (.ishr, 1) := by decide +kernel
theorem dM_put_131 : decode cM_put 131 = .ok (.sipush 255, 3) := by decide +kernel
theorem dM_put_134 : decode cM_put 134 = .ok (.iand, 1) := by decide +kernel
theorem dM_put_135 : decode cM_put 135 = .ok (.istore 5, 2) := by decide +kernel
theorem dM_put_137 : decode cM_put 137 = .ok (.iload 5, 2) := by decide +kernel
theorem dM_put_139 : decode cM_put 139 = .ok (.ifCond .le 24, 3) := by decide +kernel
theorem dM_put_142 : decode cM_put 142 = .ok (.aload_n 0, 1) := by decide +kernel
theorem dM_put_143 : decode cM_put 143 = .ok (.getfield 7, 3) := by decide +kernel
theorem dM_put_146 : decode cM_put 146 = .ok (.aload_n 0, 1) := by decide +kernel
theorem dM_put_147 : decode cM_put 147 = .ok (.getfield 232, 3) := by decide +kernel
theorem dM_put_150 : decode cM_put 150 = .ok (.iload 5, 2) := by decide +kernel
theorem dM_put_152 : decode cM_put 152 = .ok (.iastore, 1) := by decide +kernel
theorem dM_put_153 : decode cM_put 153 = .ok (.aload_n 0, 1) := by decide +kernel
theorem dM_put_154 : decode cM_put 154 = .ok (.dup, 1) := by decide +kernel
theorem dM_put_155 : decode cM_put 155 = .ok (.getfield 232, 3) := by decide +kernel
theorem dM_put_158 : decode cM_put 158 = .ok (.iconst 1, 1) := by decide +kernel
theorem dM_put_159 : decode cM_put 159 = .ok (.iadd, 1) := by decide +kernel
theorem dM_put_160 : decode cM_put 160 = .ok (.putfield 232, 3) := by decide +kernel
theorem dM_put_163 : decode cM_put 163 = .ok (.iinc 4 1, 3) := by decide +kernel
theorem dM_put_166 : decode cM_put 166 = .ok (.goto (-48), 3) := by decide +kernel
theorem dM_put_169 : decode cM_put 169 = .ok (.aload_n 0, 1) := by decide +kernel
theorem dM_put_170 : decode cM_put 170 = .ok (.getfield 232, 3) := by decide +kernel
theorem dM_put_173 : decode cM_put 173 = .ok (.ireturn, 1) := by decide +kernel
def bt (x : Int32) (i : Nat) : Bool := x.toBitVec.getLsbD i
theorem b_ext {x y : Int32} (h : ∀ i, i < 32 → bt x i = bt y i) : x = y := Int32.toBitVec_inj.mp (BitVec.eq_of_getLsbD_eq (fun i hi => h i hi))
theorem b_or (x y : Int32) (i : Nat) : bt (x ||| y) i = (bt x i || bt y i) := by unfold bt; rw [Int32.toBitVec_or, BitVec.getLsbD_or]
theorem b_and (x y : Int32) (i : Nat) : bt (x &&& y) i = (bt x i && bt y i) := by unfold bt; rw [Int32.toBitVec_and, BitVec.getLsbD_and]
theorem b_xor (x y : Int32) (i : Nat) : bt (x ^^^ y) i = (bt x i ^^ bt y i) := by unfold bt; rw [Int32.toBitVec_xor, BitVec.getLsbD_xor]
theorem b_big {x : Int32} {i : Nat} (h : 32 ≤ i) : bt x i = false := BitVec.getLsbD_of_ge _ _ h
theorem b_255 (i : Nat) : bt 255 i = decide (i < 8) := by
  rcases Nat.lt_or_ge i 32 with h | h
  · exact (by decide +kernel : ∀ i, i < 32 → bt 255 i = decide (i < 8)) i h
  · rw [b_big h, decide_eq_false (by omega)]
theorem b_65535 (i : Nat) : bt 65535 i = decide (i < 16) := by
  rcases Nat.lt_or_ge i 32 with h | h
  · exact (by decide +kernel : ∀ i, i < 32 → bt 65535 i = decide (i < 16)) i h
  · rw [b_big h, decide_eq_false (by omega)]
theorem b_m1 : ∀ i, i < 32 → bt (-1) i = true := by decide +kernel
theorem b_0 (i : Nat) : bt 0 i = false := BitVec.getLsbD_zero
theorem s_l : ∀ n, n < 32 → ((nI n &&& 31).toBitVec.smod 32).toNat = n := by decide +kernel
theorem s_u : ∀ n, n < 32 → (((nI n).toUInt32 &&& Int32.toUInt32 31).toBitVec % 32).toNat = n := by decide +kernel
theorem b_shl (n : Nat) (hn : n < 32) (x : Int32) {i : Nat} (hi : i < 32) : bt (x <<< (nI n &&& 31)) i = (decide (n ≤ i) && bt x (i - n)) := by
  unfold bt
  rw [Int32.toBitVec_shiftLeft]
  show (x.toBitVec <<< ((nI n &&& 31).toBitVec.smod 32).toNat).getLsbD i = _
  rw [s_l n hn, BitVec.getLsbD_shiftLeft]
  rcases Nat.lt_or_ge i n with h | h
  · simp [h, Nat.not_le.mpr h]
  · simp [hi, h, Nat.not_lt.mpr h]
theorem b_ushr (n : Nat) (hn : n < 32) (x : Int32) (i : Nat) : bt ((x.toUInt32 >>> ((nI n).toUInt32 &&& Int32.toUInt32 31)).toInt32) i = bt x (n + i) := by
  show (x.toUInt32 >>> ((nI n).toUInt32 &&& Int32.toUInt32 31)).toBitVec.getLsbD i = x.toUInt32.toBitVec.getLsbD (n + i)
  rw [UInt32.toBitVec_shiftRight]
  show (x.toUInt32.toBitVec >>> (((nI n).toUInt32 &&& Int32.toUInt32 31).toBitVec % 32).toNat).getLsbD i = _
  rw [s_u n hn, BitVec.getLsbD_ushiftRight]
theorem b_sshr (n : Nat) (hn : n < 32) (x : Int32) {i : Nat} (hi : i < 32) : bt (x >>> (nI n &&& 31)) i = if n + i < 32 then bt x (n + i) else bt x 31 := by
  unfold bt
  rw [Int32.toBitVec_shiftRight]
  show (x.toBitVec.sshiftRight ((nI n &&& 31).toBitVec.smod 32).toNat).getLsbD i = _
  rw [s_l n hn, BitVec.getLsbD_sshiftRight, BitVec.msb_eq_getLsbD_last]
  simp [hi]

theorem cf_sg_s (x : Int32) {k : Nat} (hk : k < 4) : (x >>> ((8 * nI k) &&& 31)) &&& 255 = cf_sg x k := by
  have e : 8 * nI k = nI (8 * k) := pk_mul 8 k
  unfold cf_sg
  rw [e]
  refine b_ext (fun i hi => ?_)
  rw [b_and, b_and, b_255, b_sshr (8 * k) (by omega) x hi, b_ushr (8 * k) (by omega) x i]
  rcases Nat.lt_or_ge i 8 with q | q
  · rw [if_pos (by omega)]
  · rw [decide_eq_false (by omega), Bool.and_false, Bool.and_false]
theorem cf_sg_nI (x : Int32) (k : Nat) : ∃ j : Nat, j < 256 ∧ cf_sg x k = nI j := pk_andE _ 8 rfl
theorem cf_sg_pos {x : Int32} {k : Nat} (h : ¬ cf_sg x k = 0) : ¬ cf_sg x k ≤ 0 := by
  obtain ⟨j, hj, e⟩ := cf_sg_nI x k
  rw [e] at h ⊢
  exact nI_nle (Nat.pos_of_ne_zero (fun z => h (by rw [z]; rfl))) (by omega)
def cf_mf (x : Int32) (n : Nat) (f : Nat → Int32) : Nat → Nat → Int32
  | 0 => f
  | k + 1 => if cf_sg x k = 0 then cf_mf x n f k else upd (cf_mf x n f k) (n + cf_cn x k) (cf_sg x k)
theorem cf_mf_0 {x : Int32} {n : Nat} {f : Nat → Int32} {k : Nat} (h : cf_sg x k = 0) : cf_mf x n f (k + 1) = cf_mf x n f k := if_pos h
theorem cf_mf_1 {x : Int32} {n : Nat} {f : Nat → Int32} {k : Nat} (h : ¬ cf_sg x k = 0) : cf_mf x n f (k + 1) = upd (cf_mf x n f k) (n + cf_cn x k) (cf_sg x k) := if_neg h
set_option maxHeartbeats 4000000 in
set_option maxRecDepth 100000 in
/-- refuse of the reference -/
theorem xM_refuse110 (l : Launch) (D : va_G) (K : Nat → ClassId) (sz : Nat) (h0 : Nat) (fs : List Value) (hfl : fs.length = 99) : Met l yM_refuse (Cond.code yM_refuse cM_refuse 4 (Option.some Jvm.ClassFile.FieldType.boolean) :: cfB) ({ frames := 0, cells := 0, slots := 0, locals := 0 }) (va_Pc [.ref h0, .int 1, .int 1, .int 0] (cf_Pre D K sz [(h0, .inr (12, fs))])) (va_Qi (fun (r : Int32) (_ : Unit) => r = 1) (fun (_ : Unit) t => cf_At D (va_A [(h0, .inr (12, fs))] sz) [(h0, .inr (12, (fs.set 0 (.int 1))))] t) (va_A [(h0, .inr (12, fs))] sz)) 0 0 (va_A [(h0, .inr (12, fs))] sz) := by
  refine cf_ofW (y := yM_refuse) (As := [.ref h0, .int 1, .int 1, .int 0]) (WS := [(h0, .inr (12, fs))]) (maxL := 4) (fun A => (va_Qi (fun (r : Int32) (_ : Unit) => r = 1) (fun (_ : Unit) t => cf_At D A [(h0, .inr (12, (fs.set 0 (.int 1))))] t) A)) (by decide) (Nat.le_of_ble_eq_true rfl) ?_
  intro p e s m below meth c A ls En hsz hA hP hD hE hS hl
  obtain ⟨hx, hb, hr, hts, hown, hlocks, hin, hml⟩ := En
  have hK := hE.k
  have hl : lv_has ls 4 [(0, .ref h0), (1, .int 1), (2, .int 1), (3, .int 0)] := hl
  refine lv_aload_n hx hb dM_refuse_0 rfl (lv_at hl 0 rfl) ?_
  refine lv_iload_n hx hb dM_refuse_1 rfl (lv_at hl 1 rfl) ?_
  refine lv_if_eq (tgt := 9) hx hb dM_refuse_2 (by decide) (fun c_1 => absurd c_1 (by decide)) (fun _ => ?_)
  refine lv_iconst (v := 1) hx hb dM_refuse_5 (by decide) ?_
  refine lv_goto (tgt := 26) hx hb dM_refuse_6 (by decide) ?_
  refine va_put (D := D) (ci := 12) (v := .int 1) (ty := .int) (C := RM) (T := TM) (N := 99) hx hb hts inM tyM tyokM nmM hown hK hP hD hS 0 rfl rfl 0 (by decide) (hts _ wv_1982) (fun _ h9 => h9) rfl (by decide +kernel) rfl rfl (by rw [hfl]; decide) dM_refuse_26 (fun H locs hP hD hS => ?_)
  have hP : va_P D vwCl [(h0, .inr (12, (fs.set 0 (.int 1))))] H := hP
  have hD : va_D A [(h0, .inr (12, (fs.set 0 (.int 1))))] := hD
  refine lv_aload_n hx hb dM_refuse_29 rfl (lv_at hl 0 rfl) ?_
  refine va_get (D := D) (ci := 12) (v := .int 1) (C := RM) (T := TM) (N := 99) hx hb hts inM hown hK hP 0 rfl rfl 0 (by decide) (hts _ wv_1982) (fun _ h9 => h9) (List.getElem?_set_self (show 0 < fs.length by rw [hfl]; decide)) dM_refuse_30 ?_
  refine lv_if_le (tgt := 40) hx hb dM_refuse_33 (by decide) (fun c_2 => absurd c_2 (by decide)) (fun _ => ?_)
  refine lv_iconst (v := 1) hx hb dM_refuse_36 (by decide) ?_
  refine lv_goto (tgt := 41) hx hb dM_refuse_37 (by decide) ?_
  exact cf_zret hx hb hr rfl hlocks () rfl hP hD hS [0] rfl (by decide +kernel) (Nat.le_of_ble_eq_true rfl) (Nat.le_of_ble_eq_true rfl) dM_refuse_41
set_option maxHeartbeats 4000000 in
set_option maxRecDepth 100000 in
/-- put of the reference: iae -/
theorem xM_put_a (l : Launch) (D : va_G) (K : Nat → ClassId) (sz : Nat) (h0 : Nat) (h2 : Nat) (fs : List Value) (f : Nat → Int32) (n : Nat) (p0 : Int32) (hfsl : fs.length = 99) (hfs_signs : fs[1]? = some (.ref h2)) (hfs_size : fs[2]? = some (.int (nI n))) (hn : n ≤ 1600) (hbad : ∃ j, j < 4 ∧ ¬ cf_ok (cf_sg p0 j)) : Met l yM_put (Cond.code yM_put cM_put 6 (Option.some Jvm.ClassFile.FieldType.int) :: cfB) ({ frames := 1, cells := 0, slots := 0, locals := 23 }) (va_Pc [.ref h0, .int p0] (cf_Pre D K sz [(h0, .inr (12, fs)), (h2, .inl (K 0, 1600, .inl f))])) (va_Qi (fun (r : Int32) (_ : Unit) => True) (fun (_ : Unit) t => cf_At D (va_A [(h0, .inr (12, fs)), (h2, .inl (K 0, 1600, .inl f))] sz) [(h0, .inr (12, (fs.set 0 (.int 1)))), (h2, .inl (K 0, 1600, .inl f))] t) (va_A [(h0, .inr (12, fs)), (h2, .inl (K 0, 1600, .inl f))] sz)) 0 0 (va_A [(h0, .inr (12, fs)), (h2, .inl (K 0, 1600, .inl f))] sz) := by
  refine cf_ofW (y := yM_put) (As := [.ref h0, .int p0]) (WS := [(h0, .inr (12, fs)), (h2, .inl (K 0, 1600, .inl f))]) (maxL := 6) (fun A => (va_Qi (fun (r : Int32) (_ : Unit) => True) (fun (_ : Unit) t => cf_At D A [(h0, .inr (12, (fs.set 0 (.int 1)))), (h2, .inl (K 0, 1600, .inl f))] t) A)) (by decide) (Nat.le_of_ble_eq_true rfl) ?_
  intro p e s m below meth c A ls En hsz hA hP hD hE hS hl
  obtain ⟨hx, hb, hr, hts, hown, hlocks, hin, hml⟩ := En
  have hK := hE.k
  have hl : lv_has ls 6 [(0, .ref h0), (1, .int p0)] := hl
  refine lv_iconst (v := 0) hx hb dM_put_0 (by decide) ?_
  refine lv_istore_n (lv' := [(2, .int 0), (0, .ref h0), (1, .int p0)]) hx hb dM_put_1 rfl hl (by decide) rfl (fun ls hl => ?_)
  refine lv_iconst (v := 1) hx hb dM_put_2 (by decide) ?_
  refine lv_istore_n (lv' := [(3, .int 1), (2, .int 0), (0, .ref h0), (1, .int p0)]) hx hb dM_put_3 rfl hl (by decide) rfl (fun ls hl => ?_)
  refine lv_iconst (v := 0) hx hb dM_put_4 (by decide) ?_
  refine lv_istore (lv' := [(4, .int 0), (3, .int 1), (2, .int 0), (0, .ref h0), (1, .int p0)]) hx hb dM_put_5 hl (by decide) rfl (fun ls hl => ?_)
  have loop1 : ∀ (n9 k : Nat), k ≤ 4 → 5 ≤ k + n9 → ∀ (gd : Int32) (ls : Array Slot), (gd = 0 ∨ (gd = 1 ∧ ∃ j, k ≤ j ∧ j < 4 ∧ ¬ cf_ok (cf_sg p0 j))) → lv_has ls 6 [(4, .int (nI k)), (3, .int gd), (2, .int (nI (cf_cn p0 k))), (0, .ref h0), (1, .int p0)] → W p l e ({ frames := 1, cells := 0, slots := 0, locals := 23 }) s m ([.ref h0, .int p0] : List Value).toArray below meth c s.heap [] 0 0 (MQ below (va_Qi (fun (r : Int32) (_ : Unit) => True) (fun (_ : Unit) t => cf_At D A [(h0, .inr (12, (fs.set 0 (.int 1)))), (h2, .inl (K 0, 1600, .inl f))] t) A) ([.ref h0, .int p0] : List Value).toArray s 0 0 A) (F0 m 7 ls []) := by
    intro n9
    induction n9 with
    | zero =>
      intro k h1 h2
      exact absurd h2 (by omega)
    | succ n9 ih =>
      intro k hk hn9 gd ls hinv hl
      refine lv_iload hx hb dM_put_7 (lv_at hl 0 rfl) ?_
      refine lv_iconst (v := 4) hx hb dM_put_9 (by decide) ?_
      refine lv_icmp_ge (tgt := 79) hx hb dM_put_10 (by decide) (fun c_1 => ?_) (fun c_1 => ?_)
      · obtain rfl : k = 4 := by have h9 := (nI_leI (a := 4) (b := k) (by omega) (by omega)).mp c_1; omega
        obtain rfl : gd = 0 := hinv.elim id (fun q => by obtain ⟨-, j, h1, h2, -⟩ := q; exact absurd h2 (by omega))
        refine lv_aload_n hx hb dM_put_79 rfl (lv_at hl 3 rfl) ?_
        refine lv_iload_n hx hb dM_put_80 rfl (lv_at hl 1 rfl) ?_
        refine lv_if_ne (tgt := 88) hx hb dM_put_81 (by decide) (fun c_2 => absurd (by decide) c_2) (fun _ => ?_)
        refine lv_iconst (v := 1) hx hb dM_put_84 (by decide) ?_
        refine lv_goto (tgt := 89) hx hb dM_put_85 (by decide) ?_
        refine lv_aload_n hx hb dM_put_89 rfl (lv_at hl 3 rfl) ?_
        refine va_get (D := D) (ci := 12) (v := .int (nI n)) (C := RM) (T := TM) (N := 99) hx hb hts inM hown hK hP 0 rfl rfl 2 (by decide) (hts _ wv_1984) (fun _ h9 => h9) hfs_size dM_put_90 ?_
        refine lv_iload_n hx hb dM_put_93 rfl (lv_at hl 2 rfl) ?_
        refine lv_iadd hx hb dM_put_94 ?_
        refine lv_topi (fun x_3 ex_3 => ?_)
        have ez_4 : x_3 = nI (n + cf_cn p0 4) := ex_3.trans (nI_add n _)
        refine lv_sipush (v := 1600) hx hb dM_put_95 (by decide) ?_
        refine lv_icmp_le (tgt := 105) hx hb dM_put_98 (by decide) (fun c_5 => ?_) (fun c_5 => ?_)
        · refine lv_iconst (v := 0) hx hb dM_put_105 (by decide) ?_
          refine lv_iconst (v := 0) hx hb dM_put_106 (by decide) ?_
          refine cf_calli (wc := [(h0, .inr (12, fs))]) (wr := [(h2, .inl (K 0, 1600, .inl f))]) (va_runV (As := [.int 1, .int 0, .int 0]) (rest := []) ⟨hx, hb, hml, hown, hts⟩ (xM_refuse100 l D K _ h0 fs hfsl) (cwV 3 hts (cf_GV wv_2291 wv_2293 wv_63 wv_173 wv_2294) rfl rfl rfl (by decide +kernel) ⟨Nat.le_of_ble_eq_true rfl, Nat.le_of_ble_eq_true rfl⟩) (cf_preV (wc := [(h0, .inr (12, fs))]) hE hP hD hS hA rfl 0 rfl [0] rfl (by decide +kernel)) rfl rfl hl.1 rfl (lv_room (Nat.le_of_ble_eq_true rfl)) dM_put_107 ⟨Nat.le_of_ble_eq_true rfl, Nat.le_of_ble_eq_true rfl⟩) hP hD hS hA [0] [1] rfl rfl (by decide +kernel) (by decide +kernel) (fun r_6 _ H locs hw_7 hP hD hS => ?_)
          have hP : va_P D vwCl [(h2, .inl (K 0, 1600, .inl f)), (h0, .inr (12, (fs.set 0 (.int 1))))] H := hP
          have hD : va_D A [(h2, .inl (K 0, 1600, .inl f)), (h0, .inr (12, (fs.set 0 (.int 1))))] := hD
          subst hw_7
          refine lv_if_eq (tgt := 115) hx hb dM_put_110 (by decide) (fun c_8 => absurd c_8 (by decide)) (fun _ => ?_)
          refine lv_iconst (v := 0) hx hb dM_put_113 (by decide) ?_
          exact cf_iret hx hb hr hlocks () trivial hP hD hS [1, 0] rfl (by decide +kernel) (Nat.le_of_ble_eq_true rfl) (Nat.le_of_ble_eq_true rfl) dM_put_114
        · refine lv_iconst (v := 1) hx hb dM_put_101 (by decide) ?_
          refine lv_goto (tgt := 106) hx hb dM_put_102 (by decide) ?_
          refine lv_iconst (v := 0) hx hb dM_put_106 (by decide) ?_
          refine cf_calli (wc := [(h0, .inr (12, fs))]) (wr := [(h2, .inl (K 0, 1600, .inl f))]) (va_runV (As := [.int 1, .int 1, .int 0]) (rest := []) ⟨hx, hb, hml, hown, hts⟩ (xM_refuse110 l D K _ h0 fs hfsl) (cwV 3 hts (cf_GV wv_2291 wv_2293 wv_63 wv_173 wv_2294) rfl rfl rfl (by decide +kernel) ⟨Nat.le_of_ble_eq_true rfl, Nat.le_of_ble_eq_true rfl⟩) (cf_preV (wc := [(h0, .inr (12, fs))]) hE hP hD hS hA rfl 0 rfl [0] rfl (by decide +kernel)) rfl rfl hl.1 rfl (lv_room (Nat.le_of_ble_eq_true rfl)) dM_put_107 ⟨Nat.le_of_ble_eq_true rfl, Nat.le_of_ble_eq_true rfl⟩) hP hD hS hA [0] [1] rfl rfl (by decide +kernel) (by decide +kernel) (fun r_9 _ H locs hw_10 hP hD hS => ?_)
          have hP : va_P D vwCl [(h2, .inl (K 0, 1600, .inl f)), (h0, .inr (12, (fs.set 0 (.int 1))))] H := hP
          have hD : va_D A [(h2, .inl (K 0, 1600, .inl f)), (h0, .inr (12, (fs.set 0 (.int 1))))] := hD
          subst hw_10
          refine lv_if_eq (tgt := 115) hx hb dM_put_110 (by decide) (fun c_11 => absurd c_11 (by decide)) (fun _ => ?_)
          refine lv_iconst (v := 0) hx hb dM_put_113 (by decide) ?_
          exact cf_iret hx hb hr hlocks () trivial hP hD hS [1, 0] rfl (by decide +kernel) (Nat.le_of_ble_eq_true rfl) (Nat.le_of_ble_eq_true rfl) dM_put_114
      · have hlt : k < 4 := by
          rcases Nat.lt_or_ge k 4 with q | q
          · exact q
          · exact absurd (show (4 : Int32) ≤ nI k from nI_le q (by omega)) c_1
        refine lv_iload_n hx hb dM_put_13 rfl (lv_at hl 4 rfl) ?_
        refine lv_bipush (v := 8) hx hb dM_put_14 (by decide) ?_
        refine lv_iload hx hb dM_put_16 (lv_at hl 0 rfl) ?_
        refine lv_imul hx hb dM_put_18 ?_
        refine lv_topi (fun x_12 ex_12 => ?_)
        refine lv_ishr hx hb dM_put_19 ?_
        refine lv_topi (fun x_13 ex_13 => ?_)
        refine lv_sipush (v := 255) hx hb dM_put_20 (by decide) ?_
        refine lv_iand hx hb dM_put_23 ?_
        refine lv_topi (fun x_14 ex_14 => ?_)
        refine lv_istore (lv' := [(5, .int x_14), (4, .int (nI k)), (3, .int gd), (2, .int (nI (cf_cn p0 k))), (0, .ref h0), (1, .int p0)]) hx hb dM_put_24 hl (by decide) rfl (fun ls hl => ?_)
        rcases hinv with rfl | ⟨rfl, hinv⟩
        · have es_15 : x_14 = cf_sg p0 k := by rw [ex_14, ex_13, ex_12]; exact cf_sg_s p0 hlt
          by_cases h9 : cf_sg p0 k = 0
          · obtain rfl : x_14 = 0 := es_15.trans h9
            refine lv_iload_n hx hb dM_put_26 rfl (lv_at hl 2 rfl) ?_
            refine lv_if_eq (tgt := 58) hx hb dM_put_27 (by decide) (fun _ => ?_) (fun c_16 => absurd (by decide) c_16)
            refine lv_iconst (v := 0) hx hb dM_put_58 (by decide) ?_
            refine lv_istore_n (lv' := [(3, .int 0), (5, .int 0), (4, .int (nI k)), (2, .int (nI (cf_cn p0 k))), (0, .ref h0), (1, .int p0)]) hx hb dM_put_59 rfl hl (by decide) rfl (fun ls hl => ?_)
            refine lv_iload hx hb dM_put_60 (lv_at hl 1 rfl) ?_
            refine lv_if_le (tgt := 71) hx hb dM_put_62 (by decide) (fun _ => ?_) (fun c_17 => absurd (by decide) c_17)
            refine lv_iload_n hx hb dM_put_71 rfl (lv_at hl 3 rfl) ?_
            refine lv_istore_n (lv' := [(2, .int (nI (cf_cn p0 k))), (3, .int 0), (5, .int 0), (4, .int (nI k)), (0, .ref h0), (1, .int p0)]) hx hb dM_put_72 rfl hl (by decide) rfl (fun ls hl => ?_)
            rw [← cf_cn_0 h9] at hl
            obtain ⟨x_18, ex_18⟩ : ∃ y : Int32, y = nI k + 1 := ⟨_, rfl⟩
            refine lv_iinc (v := x_18) (lv' := [(4, .int x_18), (2, .int (nI (cf_cn p0 (k + 1)))), (3, .int 0), (5, .int 0), (0, .ref h0), (1, .int p0)]) hx hb dM_put_73 hl (k := 3) rfl (by rw [ex_18]; rfl) (by decide) rfl (fun ls hl => ?_)
            obtain rfl : x_18 = nI (k + 1) := ex_18.trans (nI_1 k)
            refine lv_goto (tgt := 7) hx hb dM_put_76 (by decide) ?_
            exact ih (k + 1) (by omega) (by omega) 0 ls (Or.inl rfl) (lv_sub hl [0, 2, 1, 4, 5] rfl)
          · have h7 : ¬ x_14 = 0 := fun q => h9 (es_15.symm.trans q)
            have h6 : ¬ x_14 ≤ 0 := fun q => cf_sg_pos h9 (es_15 ▸ q)
            have h4 := cf_cn_le p0 k
            refine lv_iload_n hx hb dM_put_26 rfl (lv_at hl 2 rfl) ?_
            refine lv_if_eq (tgt := 58) hx hb dM_put_27 (by decide) (fun _ => ?_) (fun c_19 => absurd (by decide) c_19)
            refine lv_iconst (v := 0) hx hb dM_put_58 (by decide) ?_
            refine lv_istore_n (lv' := [(3, .int 0), (5, .int x_14), (4, .int (nI k)), (2, .int (nI (cf_cn p0 k))), (0, .ref h0), (1, .int p0)]) hx hb dM_put_59 rfl hl (by decide) rfl (fun ls hl => ?_)
            refine lv_iload hx hb dM_put_60 (lv_at hl 1 rfl) ?_
            refine lv_if_le (tgt := 71) hx hb dM_put_62 (by decide) (fun c_20 => absurd c_20 h6) (fun _ => ?_)
            refine lv_iload_n hx hb dM_put_65 rfl (lv_at hl 3 rfl) ?_
            refine lv_iconst (v := 1) hx hb dM_put_66 (by decide) ?_
            refine lv_iadd hx hb dM_put_67 ?_
            refine lv_topi (fun x_21 ex_21 => ?_)
            obtain rfl : x_21 = nI (cf_cn p0 (k + 1)) := by rw [ex_21, cf_cn_1 h9]; exact nI_1 _
            refine lv_goto (tgt := 72) hx hb dM_put_68 (by decide) ?_
            refine lv_istore_n (lv' := [(2, .int (nI (cf_cn p0 (k + 1)))), (3, .int 0), (5, .int x_14), (4, .int (nI k)), (0, .ref h0), (1, .int p0)]) hx hb dM_put_72 rfl hl (by decide) rfl (fun ls hl => ?_)
            obtain ⟨x_22, ex_22⟩ : ∃ y : Int32, y = nI k + 1 := ⟨_, rfl⟩
            refine lv_iinc (v := x_22) (lv' := [(4, .int x_22), (2, .int (nI (cf_cn p0 (k + 1)))), (3, .int 0), (5, .int x_14), (0, .ref h0), (1, .int p0)]) hx hb dM_put_73 hl (k := 3) rfl (by rw [ex_22]; rfl) (by decide) rfl (fun ls hl => ?_)
            obtain rfl : x_22 = nI (k + 1) := ex_22.trans (nI_1 k)
            refine lv_goto (tgt := 7) hx hb dM_put_76 (by decide) ?_
            exact ih (k + 1) (by omega) (by omega) 0 ls (Or.inl rfl) (lv_sub hl [0, 2, 1, 4, 5] rfl)
        · have hinv : (1 : Int32) = 1 ∧ ∃ j, k ≤ j ∧ j < 4 ∧ ¬ cf_ok (cf_sg p0 j) := ⟨rfl, hinv⟩
          have es_23 : x_14 = cf_sg p0 k := by rw [ex_14, ex_13, ex_12]; exact cf_sg_s p0 hlt
          by_cases h9 : cf_sg p0 k = 0
          · obtain rfl : x_14 = 0 := es_23.trans h9
            refine lv_iload_n hx hb dM_put_26 rfl (lv_at hl 2 rfl) ?_
            refine lv_if_eq (tgt := 58) hx hb dM_put_27 (by decide) (fun c_24 => absurd c_24 (by decide)) (fun _ => ?_)
            refine lv_iload hx hb dM_put_30 (lv_at hl 0 rfl) ?_
            refine lv_if_eq (tgt := 54) hx hb dM_put_32 (by decide) (fun _ => ?_) (fun c_25 => absurd (by decide) c_25)
            refine lv_iconst (v := 1) hx hb dM_put_54 (by decide) ?_
            refine lv_goto (tgt := 59) hx hb dM_put_55 (by decide) ?_
            refine lv_istore_n (lv' := [(3, .int 1), (5, .int 0), (4, .int (nI k)), (2, .int (nI (cf_cn p0 k))), (0, .ref h0), (1, .int p0)]) hx hb dM_put_59 rfl hl (by decide) rfl (fun ls hl => ?_)
            refine lv_iload hx hb dM_put_60 (lv_at hl 1 rfl) ?_
            refine lv_if_le (tgt := 71) hx hb dM_put_62 (by decide) (fun _ => ?_) (fun c_26 => absurd (by decide) c_26)
            refine lv_iload_n hx hb dM_put_71 rfl (lv_at hl 3 rfl) ?_
            refine lv_istore_n (lv' := [(2, .int (nI (cf_cn p0 k))), (3, .int 1), (5, .int 0), (4, .int (nI k)), (0, .ref h0), (1, .int p0)]) hx hb dM_put_72 rfl hl (by decide) rfl (fun ls hl => ?_)
            rw [← cf_cn_0 h9] at hl
            obtain ⟨x_27, ex_27⟩ : ∃ y : Int32, y = nI k + 1 := ⟨_, rfl⟩
            refine lv_iinc (v := x_27) (lv' := [(4, .int x_27), (2, .int (nI (cf_cn p0 (k + 1)))), (3, .int 1), (5, .int 0), (0, .ref h0), (1, .int p0)]) hx hb dM_put_73 hl (k := 3) rfl (by rw [ex_27]; rfl) (by decide) rfl (fun ls hl => ?_)
            obtain rfl : x_27 = nI (k + 1) := ex_27.trans (nI_1 k)
            refine lv_goto (tgt := 7) hx hb dM_put_76 (by decide) ?_
            exact ih (k + 1) (by omega) (by omega) 1 ls (Or.inr ⟨rfl, by
                obtain ⟨-, j, h1, h2, h3⟩ := hinv
                rcases Nat.lt_or_ge k j with q | q
                · exact ⟨j, q, h2, h3⟩
                · obtain rfl : k = j := by omega
                  exact absurd (Or.inl h9) h3⟩) (lv_sub hl [0, 2, 1, 4, 5] rfl)
          · have h7 : ¬ x_14 = 0 := fun q => h9 (es_23.symm.trans q)
            have h6 : ¬ x_14 ≤ 0 := fun q => cf_sg_pos h9 (es_23 ▸ q)
            have h4 := cf_cn_le p0 k
            refine lv_iload_n hx hb dM_put_26 rfl (lv_at hl 2 rfl) ?_
            refine lv_if_eq (tgt := 58) hx hb dM_put_27 (by decide) (fun c_28 => absurd c_28 (by decide)) (fun _ => ?_)
            refine lv_iload hx hb dM_put_30 (lv_at hl 0 rfl) ?_
            refine lv_if_eq (tgt := 54) hx hb dM_put_32 (by decide) (fun c_29 => absurd c_29 h7) (fun _ => ?_)
            refine lv_iload hx hb dM_put_35 (lv_at hl 0 rfl) ?_
            refine lv_bipush (v := 10) hx hb dM_put_37 (by decide) ?_
            refine lv_icmp_eq (tgt := 54) hx hb dM_put_39 (by decide) (fun c_30 => ?_) (fun c_30 => ?_)
            · refine lv_iconst (v := 1) hx hb dM_put_54 (by decide) ?_
              refine lv_goto (tgt := 59) hx hb dM_put_55 (by decide) ?_
              refine lv_istore_n (lv' := [(3, .int 1), (5, .int x_14), (4, .int (nI k)), (2, .int (nI (cf_cn p0 k))), (0, .ref h0), (1, .int p0)]) hx hb dM_put_59 rfl hl (by decide) rfl (fun ls hl => ?_)
              refine lv_iload hx hb dM_put_60 (lv_at hl 1 rfl) ?_
              refine lv_if_le (tgt := 71) hx hb dM_put_62 (by decide) (fun c_31 => absurd c_31 h6) (fun _ => ?_)
              refine lv_iload_n hx hb dM_put_65 rfl (lv_at hl 3 rfl) ?_
              refine lv_iconst (v := 1) hx hb dM_put_66 (by decide) ?_
              refine lv_iadd hx hb dM_put_67 ?_
              refine lv_topi (fun x_32 ex_32 => ?_)
              obtain rfl : x_32 = nI (cf_cn p0 (k + 1)) := by rw [ex_32, cf_cn_1 h9]; exact nI_1 _
              refine lv_goto (tgt := 72) hx hb dM_put_68 (by decide) ?_
              refine lv_istore_n (lv' := [(2, .int (nI (cf_cn p0 (k + 1)))), (3, .int 1), (5, .int x_14), (4, .int (nI k)), (0, .ref h0), (1, .int p0)]) hx hb dM_put_72 rfl hl (by decide) rfl (fun ls hl => ?_)
              obtain ⟨x_33, ex_33⟩ : ∃ y : Int32, y = nI k + 1 := ⟨_, rfl⟩
              refine lv_iinc (v := x_33) (lv' := [(4, .int x_33), (2, .int (nI (cf_cn p0 (k + 1)))), (3, .int 1), (5, .int x_14), (0, .ref h0), (1, .int p0)]) hx hb dM_put_73 hl (k := 3) rfl (by rw [ex_33]; rfl) (by decide) rfl (fun ls hl => ?_)
              obtain rfl : x_33 = nI (k + 1) := ex_33.trans (nI_1 k)
              refine lv_goto (tgt := 7) hx hb dM_put_76 (by decide) ?_
              exact ih (k + 1) (by omega) (by omega) 1 ls (Or.inr ⟨rfl, by
                  obtain ⟨-, j, h1, h2, h3⟩ := hinv
                  rcases Nat.lt_or_ge k j with q | q
                  · exact ⟨j, q, h2, h3⟩
                  · obtain rfl : k = j := by omega
                    exact absurd (Or.inr (Or.inl (es_23.symm.trans c_30))) h3⟩) (lv_sub hl [0, 2, 1, 4, 5] rfl)
            · refine lv_iload hx hb dM_put_42 (lv_at hl 0 rfl) ?_
              refine lv_bipush (v := 32) hx hb dM_put_44 (by decide) ?_
              refine lv_bipush (v := 126) hx hb dM_put_46 (by decide) ?_
              refine cf_pcalli (va_runS (As := [.int x_14, .int 32, .int 126]) (rest := []) ⟨hx, hb, hml, hown, hts⟩ (kM_in l x_14 32 126) (va_cwS 3 hts (cf_GS wv_2288 wv_2289 wv_173 wv_2290) rfl rfl rfl (by decide +kernel) ⟨Nat.le_of_ble_eq_true rfl, Nat.le_of_ble_eq_true rfl⟩) preEq rfl rfl hl.1 rfl (lv_room (Nat.le_of_ble_eq_true rfl)) dM_put_48 ⟨Nat.le_of_ble_eq_true rfl, Nat.le_of_ble_eq_true rfl⟩) (fun r_34 hw_35 => ?_)
              rcases hw_35 with ⟨rfl, hin1⟩ | ⟨rfl, hin1⟩
              · refine lv_if_eq (tgt := 58) hx hb dM_put_51 (by decide) (fun c_36 => absurd c_36 (by decide)) (fun _ => ?_)
                refine lv_iconst (v := 1) hx hb dM_put_54 (by decide) ?_
                refine lv_goto (tgt := 59) hx hb dM_put_55 (by decide) ?_
                refine lv_istore_n (lv' := [(3, .int 1), (5, .int x_14), (4, .int (nI k)), (2, .int (nI (cf_cn p0 k))), (0, .ref h0), (1, .int p0)]) hx hb dM_put_59 rfl hl (by decide) rfl (fun ls hl => ?_)
                refine lv_iload hx hb dM_put_60 (lv_at hl 1 rfl) ?_
                refine lv_if_le (tgt := 71) hx hb dM_put_62 (by decide) (fun c_37 => absurd c_37 h6) (fun _ => ?_)
                refine lv_iload_n hx hb dM_put_65 rfl (lv_at hl 3 rfl) ?_
                refine lv_iconst (v := 1) hx hb dM_put_66 (by decide) ?_
                refine lv_iadd hx hb dM_put_67 ?_
                refine lv_topi (fun x_38 ex_38 => ?_)
                obtain rfl : x_38 = nI (cf_cn p0 (k + 1)) := by rw [ex_38, cf_cn_1 h9]; exact nI_1 _
                refine lv_goto (tgt := 72) hx hb dM_put_68 (by decide) ?_
                refine lv_istore_n (lv' := [(2, .int (nI (cf_cn p0 (k + 1)))), (3, .int 1), (5, .int x_14), (4, .int (nI k)), (0, .ref h0), (1, .int p0)]) hx hb dM_put_72 rfl hl (by decide) rfl (fun ls hl => ?_)
                obtain ⟨x_39, ex_39⟩ : ∃ y : Int32, y = nI k + 1 := ⟨_, rfl⟩
                refine lv_iinc (v := x_39) (lv' := [(4, .int x_39), (2, .int (nI (cf_cn p0 (k + 1)))), (3, .int 1), (5, .int x_14), (0, .ref h0), (1, .int p0)]) hx hb dM_put_73 hl (k := 3) rfl (by rw [ex_39]; rfl) (by decide) rfl (fun ls hl => ?_)
                obtain rfl : x_39 = nI (k + 1) := ex_39.trans (nI_1 k)
                refine lv_goto (tgt := 7) hx hb dM_put_76 (by decide) ?_
                exact ih (k + 1) (by omega) (by omega) 1 ls (Or.inr ⟨rfl, by
                    obtain ⟨-, j, h1, h2, h3⟩ := hinv
                    rcases Nat.lt_or_ge k j with q | q
                    · exact ⟨j, q, h2, h3⟩
                    · obtain rfl : k = j := by omega
                      exact absurd (Or.inr (Or.inr (by rw [← es_23]; exact ⟨hin1.1, hin1.2⟩))) h3⟩) (lv_sub hl [0, 2, 1, 4, 5] rfl)
              · refine lv_if_eq (tgt := 58) hx hb dM_put_51 (by decide) (fun _ => ?_) (fun c_40 => absurd (by decide) c_40)
                refine lv_iconst (v := 0) hx hb dM_put_58 (by decide) ?_
                refine lv_istore_n (lv' := [(3, .int 0), (5, .int x_14), (4, .int (nI k)), (2, .int (nI (cf_cn p0 k))), (0, .ref h0), (1, .int p0)]) hx hb dM_put_59 rfl hl (by decide) rfl (fun ls hl => ?_)
                refine lv_iload hx hb dM_put_60 (lv_at hl 1 rfl) ?_
                refine lv_if_le (tgt := 71) hx hb dM_put_62 (by decide) (fun c_41 => absurd c_41 h6) (fun _ => ?_)
                refine lv_iload_n hx hb dM_put_65 rfl (lv_at hl 3 rfl) ?_
                refine lv_iconst (v := 1) hx hb dM_put_66 (by decide) ?_
                refine lv_iadd hx hb dM_put_67 ?_
                refine lv_topi (fun x_42 ex_42 => ?_)
                obtain rfl : x_42 = nI (cf_cn p0 (k + 1)) := by rw [ex_42, cf_cn_1 h9]; exact nI_1 _
                refine lv_goto (tgt := 72) hx hb dM_put_68 (by decide) ?_
                refine lv_istore_n (lv' := [(2, .int (nI (cf_cn p0 (k + 1)))), (3, .int 0), (5, .int x_14), (4, .int (nI k)), (0, .ref h0), (1, .int p0)]) hx hb dM_put_72 rfl hl (by decide) rfl (fun ls hl => ?_)
                obtain ⟨x_43, ex_43⟩ : ∃ y : Int32, y = nI k + 1 := ⟨_, rfl⟩
                refine lv_iinc (v := x_43) (lv' := [(4, .int x_43), (2, .int (nI (cf_cn p0 (k + 1)))), (3, .int 0), (5, .int x_14), (0, .ref h0), (1, .int p0)]) hx hb dM_put_73 hl (k := 3) rfl (by rw [ex_43]; rfl) (by decide) rfl (fun ls hl => ?_)
                obtain rfl : x_43 = nI (k + 1) := ex_43.trans (nI_1 k)
                refine lv_goto (tgt := 7) hx hb dM_put_76 (by decide) ?_
                exact ih (k + 1) (by omega) (by omega) 0 ls (Or.inl rfl) (lv_sub hl [0, 2, 1, 4, 5] rfl)
  exact loop1 5 0 (by omega) (by omega) 1 ls (Or.inr ⟨rfl, hbad.choose, Nat.zero_le _, hbad.choose_spec⟩) (lv_sub hl [0, 1, 2, 3, 4] rfl)
set_option maxHeartbeats 4000000 in
set_option maxRecDepth 100000 in
/-- put of the reference: uoe -/
theorem xM_put_b (l : Launch) (D : va_G) (K : Nat → ClassId) (sz : Nat) (h0 : Nat) (h2 : Nat) (fs : List Value) (f : Nat → Int32) (n : Nat) (p0 : Int32) (hfsl : fs.length = 99) (hfs_signs : fs[1]? = some (.ref h2)) (hfs_size : fs[2]? = some (.int (nI n))) (hn : n ≤ 1600) (hgood : ∀ j, j < 4 → cf_ok (cf_sg p0 j)) (hroom : 1600 < n + cf_cn p0 4) : Met l yM_put (Cond.code yM_put cM_put 6 (Option.some Jvm.ClassFile.FieldType.int) :: cfB) ({ frames := 1, cells := 0, slots := 0, locals := 23 }) (va_Pc [.ref h0, .int p0] (cf_Pre D K sz [(h0, .inr (12, fs)), (h2, .inl (K 0, 1600, .inl f))])) (va_Qi (fun (r : Int32) (_ : Unit) => True) (fun (_ : Unit) t => cf_At D (va_A [(h0, .inr (12, fs)), (h2, .inl (K 0, 1600, .inl f))] sz) [(h0, .inr (12, (fs.set 0 (.int 2)))), (h2, .inl (K 0, 1600, .inl f))] t) (va_A [(h0, .inr (12, fs)), (h2, .inl (K 0, 1600, .inl f))] sz)) 0 0 (va_A [(h0, .inr (12, fs)), (h2, .inl (K 0, 1600, .inl f))] sz) := by
  refine cf_ofW (y := yM_put) (As := [.ref h0, .int p0]) (WS := [(h0, .inr (12, fs)), (h2, .inl (K 0, 1600, .inl f))]) (maxL := 6) (fun A => (va_Qi (fun (r : Int32) (_ : Unit) => True) (fun (_ : Unit) t => cf_At D A [(h0, .inr (12, (fs.set 0 (.int 2)))), (h2, .inl (K 0, 1600, .inl f))] t) A)) (by decide) (Nat.le_of_ble_eq_true rfl) ?_
  intro p e s m below meth c A ls En hsz hA hP hD hE hS hl
  obtain ⟨hx, hb, hr, hts, hown, hlocks, hin, hml⟩ := En
  have hK := hE.k
  have hl : lv_has ls 6 [(0, .ref h0), (1, .int p0)] := hl
  refine lv_iconst (v := 0) hx hb dM_put_0 (by decide) ?_
  refine lv_istore_n (lv' := [(2, .int 0), (0, .ref h0), (1, .int p0)]) hx hb dM_put_1 rfl hl (by decide) rfl (fun ls hl => ?_)
  refine lv_iconst (v := 1) hx hb dM_put_2 (by decide) ?_
  refine lv_istore_n (lv' := [(3, .int 1), (2, .int 0), (0, .ref h0), (1, .int p0)]) hx hb dM_put_3 rfl hl (by decide) rfl (fun ls hl => ?_)
  refine lv_iconst (v := 0) hx hb dM_put_4 (by decide) ?_
  refine lv_istore (lv' := [(4, .int 0), (3, .int 1), (2, .int 0), (0, .ref h0), (1, .int p0)]) hx hb dM_put_5 hl (by decide) rfl (fun ls hl => ?_)
  have loop1 : ∀ (n9 k : Nat), k ≤ 4 → 5 ≤ k + n9 → ∀ (ls : Array Slot), lv_has ls 6 [(4, .int (nI k)), (3, .int 1), (2, .int (nI (cf_cn p0 k))), (0, .ref h0), (1, .int p0)] → W p l e ({ frames := 1, cells := 0, slots := 0, locals := 23 }) s m ([.ref h0, .int p0] : List Value).toArray below meth c s.heap [] 0 0 (MQ below (va_Qi (fun (r : Int32) (_ : Unit) => True) (fun (_ : Unit) t => cf_At D A [(h0, .inr (12, (fs.set 0 (.int 2)))), (h2, .inl (K 0, 1600, .inl f))] t) A) ([.ref h0, .int p0] : List Value).toArray s 0 0 A) (F0 m 7 ls []) := by
    intro n9
    induction n9 with
    | zero =>
      intro k h1 h2
      exact absurd h2 (by omega)
    | succ n9 ih =>
      intro k hk hn9 ls hl
      refine lv_iload hx hb dM_put_7 (lv_at hl 0 rfl) ?_
      refine lv_iconst (v := 4) hx hb dM_put_9 (by decide) ?_
      refine lv_icmp_ge (tgt := 79) hx hb dM_put_10 (by decide) (fun c_1 => ?_) (fun c_1 => ?_)
      · obtain rfl : k = 4 := by have h9 := (nI_leI (a := 4) (b := k) (by omega) (by omega)).mp c_1; omega
        refine lv_aload_n hx hb dM_put_79 rfl (lv_at hl 3 rfl) ?_
        refine lv_iload_n hx hb dM_put_80 rfl (lv_at hl 1 rfl) ?_
        refine lv_if_ne (tgt := 88) hx hb dM_put_81 (by decide) (fun _ => ?_) (fun c_2 => absurd c_2 (by decide))
        refine lv_iconst (v := 0) hx hb dM_put_88 (by decide) ?_
        refine lv_aload_n hx hb dM_put_89 rfl (lv_at hl 3 rfl) ?_
        refine va_get (D := D) (ci := 12) (v := .int (nI n)) (C := RM) (T := TM) (N := 99) hx hb hts inM hown hK hP 0 rfl rfl 2 (by decide) (hts _ wv_1984) (fun _ h9 => h9) hfs_size dM_put_90 ?_
        refine lv_iload_n hx hb dM_put_93 rfl (lv_at hl 2 rfl) ?_
        refine lv_iadd hx hb dM_put_94 ?_
        refine lv_topi (fun x_3 ex_3 => ?_)
        have ez_4 : x_3 = nI (n + cf_cn p0 4) := ex_3.trans (nI_add n _)
        refine lv_sipush (v := 1600) hx hb dM_put_95 (by decide) ?_
        refine lv_icmp_le (tgt := 105) hx hb dM_put_98 (by decide) (fun c_5 => absurd c_5 (by rw [ez_4]; exact nI_ge hroom (by have := cf_cn_le p0 4; omega))) (fun _ => ?_)
        refine lv_iconst (v := 1) hx hb dM_put_101 (by decide) ?_
        refine lv_goto (tgt := 106) hx hb dM_put_102 (by decide) ?_
        refine lv_iconst (v := 0) hx hb dM_put_106 (by decide) ?_
        refine cf_calli (wc := [(h0, .inr (12, fs))]) (wr := [(h2, .inl (K 0, 1600, .inl f))]) (va_runV (As := [.int 0, .int 1, .int 0]) (rest := []) ⟨hx, hb, hml, hown, hts⟩ (xM_refuse010 l D K _ h0 fs hfsl) (cwV 3 hts (cf_GV wv_2291 wv_2293 wv_63 wv_173 wv_2294) rfl rfl rfl (by decide +kernel) ⟨Nat.le_of_ble_eq_true rfl, Nat.le_of_ble_eq_true rfl⟩) (cf_preV (wc := [(h0, .inr (12, fs))]) hE hP hD hS hA rfl 0 rfl [0] rfl (by decide +kernel)) rfl rfl hl.1 rfl (lv_room (Nat.le_of_ble_eq_true rfl)) dM_put_107 ⟨Nat.le_of_ble_eq_true rfl, Nat.le_of_ble_eq_true rfl⟩) hP hD hS hA [0] [1] rfl rfl (by decide +kernel) (by decide +kernel) (fun r_6 _ H locs hw_7 hP hD hS => ?_)
        have hP : va_P D vwCl [(h2, .inl (K 0, 1600, .inl f)), (h0, .inr (12, (fs.set 0 (.int 2))))] H := hP
        have hD : va_D A [(h2, .inl (K 0, 1600, .inl f)), (h0, .inr (12, (fs.set 0 (.int 2))))] := hD
        subst hw_7
        refine lv_if_eq (tgt := 115) hx hb dM_put_110 (by decide) (fun c_8 => absurd c_8 (by decide)) (fun _ => ?_)
        refine lv_iconst (v := 0) hx hb dM_put_113 (by decide) ?_
        exact cf_iret hx hb hr hlocks () trivial hP hD hS [1, 0] rfl (by decide +kernel) (Nat.le_of_ble_eq_true rfl) (Nat.le_of_ble_eq_true rfl) dM_put_114
      · have hlt : k < 4 := by
          rcases Nat.lt_or_ge k 4 with q | q
          · exact q
          · exact absurd (show (4 : Int32) ≤ nI k from nI_le q (by omega)) c_1
        refine lv_iload_n hx hb dM_put_13 rfl (lv_at hl 4 rfl) ?_
        refine lv_bipush (v := 8) hx hb dM_put_14 (by decide) ?_
        refine lv_iload hx hb dM_put_16 (lv_at hl 0 rfl) ?_
        refine lv_imul hx hb dM_put_18 ?_
        refine lv_topi (fun x_9 ex_9 => ?_)
        refine lv_ishr hx hb dM_put_19 ?_
        refine lv_topi (fun x_10 ex_10 => ?_)
        refine lv_sipush (v := 255) hx hb dM_put_20 (by decide) ?_
        refine lv_iand hx hb dM_put_23 ?_
        refine lv_topi (fun x_11 ex_11 => ?_)
        refine lv_istore (lv' := [(5, .int x_11), (4, .int (nI k)), (3, .int 1), (2, .int (nI (cf_cn p0 k))), (0, .ref h0), (1, .int p0)]) hx hb dM_put_24 hl (by decide) rfl (fun ls hl => ?_)
        have es_12 : x_11 = cf_sg p0 k := by rw [ex_11, ex_10, ex_9]; exact cf_sg_s p0 hlt
        by_cases h9 : cf_sg p0 k = 0
        · obtain rfl : x_11 = 0 := es_12.trans h9
          refine lv_iload_n hx hb dM_put_26 rfl (lv_at hl 2 rfl) ?_
          refine lv_if_eq (tgt := 58) hx hb dM_put_27 (by decide) (fun c_13 => absurd c_13 (by decide)) (fun _ => ?_)
          refine lv_iload hx hb dM_put_30 (lv_at hl 0 rfl) ?_
          refine lv_if_eq (tgt := 54) hx hb dM_put_32 (by decide) (fun _ => ?_) (fun c_14 => absurd (by decide) c_14)
          refine lv_iconst (v := 1) hx hb dM_put_54 (by decide) ?_
          refine lv_goto (tgt := 59) hx hb dM_put_55 (by decide) ?_
          refine lv_istore_n (lv' := [(3, .int 1), (5, .int 0), (4, .int (nI k)), (2, .int (nI (cf_cn p0 k))), (0, .ref h0), (1, .int p0)]) hx hb dM_put_59 rfl hl (by decide) rfl (fun ls hl => ?_)
          refine lv_iload hx hb dM_put_60 (lv_at hl 1 rfl) ?_
          refine lv_if_le (tgt := 71) hx hb dM_put_62 (by decide) (fun _ => ?_) (fun c_15 => absurd (by decide) c_15)
          refine lv_iload_n hx hb dM_put_71 rfl (lv_at hl 3 rfl) ?_
          refine lv_istore_n (lv' := [(2, .int (nI (cf_cn p0 k))), (3, .int 1), (5, .int 0), (4, .int (nI k)), (0, .ref h0), (1, .int p0)]) hx hb dM_put_72 rfl hl (by decide) rfl (fun ls hl => ?_)
          rw [← cf_cn_0 h9] at hl
          obtain ⟨x_16, ex_16⟩ : ∃ y : Int32, y = nI k + 1 := ⟨_, rfl⟩
          refine lv_iinc (v := x_16) (lv' := [(4, .int x_16), (2, .int (nI (cf_cn p0 (k + 1)))), (3, .int 1), (5, .int 0), (0, .ref h0), (1, .int p0)]) hx hb dM_put_73 hl (k := 3) rfl (by rw [ex_16]; rfl) (by decide) rfl (fun ls hl => ?_)
          obtain rfl : x_16 = nI (k + 1) := ex_16.trans (nI_1 k)
          refine lv_goto (tgt := 7) hx hb dM_put_76 (by decide) ?_
          exact ih (k + 1) (by omega) (by omega) ls (lv_sub hl [0, 2, 1, 4, 5] rfl)
        · have h7 : ¬ x_11 = 0 := fun q => h9 (es_12.symm.trans q)
          have h6 : ¬ x_11 ≤ 0 := fun q => cf_sg_pos h9 (es_12 ▸ q)
          have h4 := cf_cn_le p0 k
          refine lv_iload_n hx hb dM_put_26 rfl (lv_at hl 2 rfl) ?_
          refine lv_if_eq (tgt := 58) hx hb dM_put_27 (by decide) (fun c_17 => absurd c_17 (by decide)) (fun _ => ?_)
          refine lv_iload hx hb dM_put_30 (lv_at hl 0 rfl) ?_
          refine lv_if_eq (tgt := 54) hx hb dM_put_32 (by decide) (fun c_18 => absurd c_18 h7) (fun _ => ?_)
          refine lv_iload hx hb dM_put_35 (lv_at hl 0 rfl) ?_
          refine lv_bipush (v := 10) hx hb dM_put_37 (by decide) ?_
          refine lv_icmp_eq (tgt := 54) hx hb dM_put_39 (by decide) (fun c_19 => ?_) (fun c_19 => ?_)
          · refine lv_iconst (v := 1) hx hb dM_put_54 (by decide) ?_
            refine lv_goto (tgt := 59) hx hb dM_put_55 (by decide) ?_
            refine lv_istore_n (lv' := [(3, .int 1), (5, .int x_11), (4, .int (nI k)), (2, .int (nI (cf_cn p0 k))), (0, .ref h0), (1, .int p0)]) hx hb dM_put_59 rfl hl (by decide) rfl (fun ls hl => ?_)
            refine lv_iload hx hb dM_put_60 (lv_at hl 1 rfl) ?_
            refine lv_if_le (tgt := 71) hx hb dM_put_62 (by decide) (fun c_20 => absurd c_20 h6) (fun _ => ?_)
            refine lv_iload_n hx hb dM_put_65 rfl (lv_at hl 3 rfl) ?_
            refine lv_iconst (v := 1) hx hb dM_put_66 (by decide) ?_
            refine lv_iadd hx hb dM_put_67 ?_
            refine lv_topi (fun x_21 ex_21 => ?_)
            obtain rfl : x_21 = nI (cf_cn p0 (k + 1)) := by rw [ex_21, cf_cn_1 h9]; exact nI_1 _
            refine lv_goto (tgt := 72) hx hb dM_put_68 (by decide) ?_
            refine lv_istore_n (lv' := [(2, .int (nI (cf_cn p0 (k + 1)))), (3, .int 1), (5, .int x_11), (4, .int (nI k)), (0, .ref h0), (1, .int p0)]) hx hb dM_put_72 rfl hl (by decide) rfl (fun ls hl => ?_)
            obtain ⟨x_22, ex_22⟩ : ∃ y : Int32, y = nI k + 1 := ⟨_, rfl⟩
            refine lv_iinc (v := x_22) (lv' := [(4, .int x_22), (2, .int (nI (cf_cn p0 (k + 1)))), (3, .int 1), (5, .int x_11), (0, .ref h0), (1, .int p0)]) hx hb dM_put_73 hl (k := 3) rfl (by rw [ex_22]; rfl) (by decide) rfl (fun ls hl => ?_)
            obtain rfl : x_22 = nI (k + 1) := ex_22.trans (nI_1 k)
            refine lv_goto (tgt := 7) hx hb dM_put_76 (by decide) ?_
            exact ih (k + 1) (by omega) (by omega) ls (lv_sub hl [0, 2, 1, 4, 5] rfl)
          · refine lv_iload hx hb dM_put_42 (lv_at hl 0 rfl) ?_
            refine lv_bipush (v := 32) hx hb dM_put_44 (by decide) ?_
            refine lv_bipush (v := 126) hx hb dM_put_46 (by decide) ?_
            refine cf_pcalli (va_runS (As := [.int x_11, .int 32, .int 126]) (rest := []) ⟨hx, hb, hml, hown, hts⟩ (kM_in l x_11 32 126) (va_cwS 3 hts (cf_GS wv_2288 wv_2289 wv_173 wv_2290) rfl rfl rfl (by decide +kernel) ⟨Nat.le_of_ble_eq_true rfl, Nat.le_of_ble_eq_true rfl⟩) preEq rfl rfl hl.1 rfl (lv_room (Nat.le_of_ble_eq_true rfl)) dM_put_48 ⟨Nat.le_of_ble_eq_true rfl, Nat.le_of_ble_eq_true rfl⟩) (fun r_23 hw_24 => ?_)
            obtain rfl : r_23 = 1 := hw_24.elim (fun q => q.1) (fun q => absurd ((hgood k hlt).elim (fun z => absurd z h9) (fun z => z.elim (fun z => absurd (es_12.trans z) c_19) (fun z => show 32 ≤ x_11 ∧ x_11 ≤ 126 by rw [es_12]; exact z))) (fun z => q.2.elim (fun t => absurd z.1 (Int32.not_le.mpr t)) (fun t => absurd z.2 (Int32.not_le.mpr t))))
            refine lv_if_eq (tgt := 58) hx hb dM_put_51 (by decide) (fun c_25 => absurd c_25 (by decide)) (fun _ => ?_)
            refine lv_iconst (v := 1) hx hb dM_put_54 (by decide) ?_
            refine lv_goto (tgt := 59) hx hb dM_put_55 (by decide) ?_
            refine lv_istore_n (lv' := [(3, .int 1), (5, .int x_11), (4, .int (nI k)), (2, .int (nI (cf_cn p0 k))), (0, .ref h0), (1, .int p0)]) hx hb dM_put_59 rfl hl (by decide) rfl (fun ls hl => ?_)
            refine lv_iload hx hb dM_put_60 (lv_at hl 1 rfl) ?_
            refine lv_if_le (tgt := 71) hx hb dM_put_62 (by decide) (fun c_26 => absurd c_26 h6) (fun _ => ?_)
            refine lv_iload_n hx hb dM_put_65 rfl (lv_at hl 3 rfl) ?_
            refine lv_iconst (v := 1) hx hb dM_put_66 (by decide) ?_
            refine lv_iadd hx hb dM_put_67 ?_
            refine lv_topi (fun x_27 ex_27 => ?_)
            obtain rfl : x_27 = nI (cf_cn p0 (k + 1)) := by rw [ex_27, cf_cn_1 h9]; exact nI_1 _
            refine lv_goto (tgt := 72) hx hb dM_put_68 (by decide) ?_
            refine lv_istore_n (lv' := [(2, .int (nI (cf_cn p0 (k + 1)))), (3, .int 1), (5, .int x_11), (4, .int (nI k)), (0, .ref h0), (1, .int p0)]) hx hb dM_put_72 rfl hl (by decide) rfl (fun ls hl => ?_)
            obtain ⟨x_28, ex_28⟩ : ∃ y : Int32, y = nI k + 1 := ⟨_, rfl⟩
            refine lv_iinc (v := x_28) (lv' := [(4, .int x_28), (2, .int (nI (cf_cn p0 (k + 1)))), (3, .int 1), (5, .int x_11), (0, .ref h0), (1, .int p0)]) hx hb dM_put_73 hl (k := 3) rfl (by rw [ex_28]; rfl) (by decide) rfl (fun ls hl => ?_)
            obtain rfl : x_28 = nI (k + 1) := ex_28.trans (nI_1 k)
            refine lv_goto (tgt := 7) hx hb dM_put_76 (by decide) ?_
            exact ih (k + 1) (by omega) (by omega) ls (lv_sub hl [0, 2, 1, 4, 5] rfl)
  exact loop1 5 0 (by omega) (by omega) ls (lv_sub hl [0, 1, 2, 3, 4] rfl)
set_option maxHeartbeats 4000000 in
set_option maxRecDepth 100000 in
/-- put of the reference: ok -/
theorem kM_put (l : Launch) (D : va_G) (K : Nat → ClassId) (sz : Nat) (h0 : Nat) (h2 : Nat) (fs : List Value) (f : Nat → Int32) (n : Nat) (p0 : Int32) (hfsl : fs.length = 99) (hfs_signs : fs[1]? = some (.ref h2)) (hfs_size : fs[2]? = some (.int (nI n))) (hn : n ≤ 1600) (hgood : ∀ j, j < 4 → cf_ok (cf_sg p0 j)) (hroom : n + cf_cn p0 4 ≤ 1600) : Met l yM_put (Cond.code yM_put cM_put 6 (Option.some Jvm.ClassFile.FieldType.int) :: cfB) ({ frames := 1, cells := 0, slots := 0, locals := 23 }) (va_Pc [.ref h0, .int p0] (cf_Pre D K sz [(h0, .inr (12, fs)), (h2, .inl (K 0, 1600, .inl f))])) (va_Qi (fun (r : Int32) (_ : Unit) => r = nI (n + cf_cn p0 4)) (fun (_ : Unit) t => cf_At D (va_A [(h0, .inr (12, fs)), (h2, .inl (K 0, 1600, .inl f))] sz) [(h0, .inr (12, ((fs.set 0 (.int 0)).set 2 (.int (nI (n + cf_cn p0 4)))))), (h2, .inl (K 0, 1600, .inl (cf_mf p0 n f 4)))] t) (va_A [(h0, .inr (12, fs)), (h2, .inl (K 0, 1600, .inl f))] sz)) 0 0 (va_A [(h0, .inr (12, fs)), (h2, .inl (K 0, 1600, .inl f))] sz) := by
  refine cf_ofW (y := yM_put) (As := [.ref h0, .int p0]) (WS := [(h0, .inr (12, fs)), (h2, .inl (K 0, 1600, .inl f))]) (maxL := 6) (fun A => (va_Qi (fun (r : Int32) (_ : Unit) => r = nI (n + cf_cn p0 4)) (fun (_ : Unit) t => cf_At D A [(h0, .inr (12, ((fs.set 0 (.int 0)).set 2 (.int (nI (n + cf_cn p0 4)))))), (h2, .inl (K 0, 1600, .inl (cf_mf p0 n f 4)))] t) A)) (by decide) (Nat.le_of_ble_eq_true rfl) ?_
  intro p e s m below meth c A ls En hsz hA hP hD hE hS hl
  obtain ⟨hx, hb, hr, hts, hown, hlocks, hin, hml⟩ := En
  have hK := hE.k
  have hl : lv_has ls 6 [(0, .ref h0), (1, .int p0)] := hl
  refine lv_iconst (v := 0) hx hb dM_put_0 (by decide) ?_
  refine lv_istore_n (lv' := [(2, .int 0), (0, .ref h0), (1, .int p0)]) hx hb dM_put_1 rfl hl (by decide) rfl (fun ls hl => ?_)
  refine lv_iconst (v := 1) hx hb dM_put_2 (by decide) ?_
  refine lv_istore_n (lv' := [(3, .int 1), (2, .int 0), (0, .ref h0), (1, .int p0)]) hx hb dM_put_3 rfl hl (by decide) rfl (fun ls hl => ?_)
  refine lv_iconst (v := 0) hx hb dM_put_4 (by decide) ?_
  refine lv_istore (lv' := [(4, .int 0), (3, .int 1), (2, .int 0), (0, .ref h0), (1, .int p0)]) hx hb dM_put_5 hl (by decide) rfl (fun ls hl => ?_)
  have loop1 : ∀ (n9 k : Nat), k ≤ 4 → 5 ≤ k + n9 → ∀ (ls : Array Slot), lv_has ls 6 [(4, .int (nI k)), (3, .int 1), (2, .int (nI (cf_cn p0 k))), (0, .ref h0), (1, .int p0)] → W p l e ({ frames := 1, cells := 0, slots := 0, locals := 23 }) s m ([.ref h0, .int p0] : List Value).toArray below meth c s.heap [] 0 0 (MQ below (va_Qi (fun (r : Int32) (_ : Unit) => r = nI (n + cf_cn p0 4)) (fun (_ : Unit) t => cf_At D A [(h0, .inr (12, ((fs.set 0 (.int 0)).set 2 (.int (nI (n + cf_cn p0 4)))))), (h2, .inl (K 0, 1600, .inl (cf_mf p0 n f 4)))] t) A) ([.ref h0, .int p0] : List Value).toArray s 0 0 A) (F0 m 7 ls []) := by
    intro n9
    induction n9 with
    | zero =>
      intro k h1 h2
      exact absurd h2 (by omega)
    | succ n9 ih =>
      intro k hk hn9 ls hl
      refine lv_iload hx hb dM_put_7 (lv_at hl 0 rfl) ?_
      refine lv_iconst (v := 4) hx hb dM_put_9 (by decide) ?_
      refine lv_icmp_ge (tgt := 79) hx hb dM_put_10 (by decide) (fun c_1 => ?_) (fun c_1 => ?_)
      · obtain rfl : k = 4 := by have h9 := (nI_leI (a := 4) (b := k) (by omega) (by omega)).mp c_1; omega
        refine lv_aload_n hx hb dM_put_79 rfl (lv_at hl 3 rfl) ?_
        refine lv_iload_n hx hb dM_put_80 rfl (lv_at hl 1 rfl) ?_
        refine lv_if_ne (tgt := 88) hx hb dM_put_81 (by decide) (fun _ => ?_) (fun c_2 => absurd c_2 (by decide))
        refine lv_iconst (v := 0) hx hb dM_put_88 (by decide) ?_
        refine lv_aload_n hx hb dM_put_89 rfl (lv_at hl 3 rfl) ?_
        refine va_get (D := D) (ci := 12) (v := .int (nI n)) (C := RM) (T := TM) (N := 99) hx hb hts inM hown hK hP 0 rfl rfl 2 (by decide) (hts _ wv_1984) (fun _ h9 => h9) hfs_size dM_put_90 ?_
        refine lv_iload_n hx hb dM_put_93 rfl (lv_at hl 2 rfl) ?_
        refine lv_iadd hx hb dM_put_94 ?_
        refine lv_topi (fun x_3 ex_3 => ?_)
        have ez_4 : x_3 = nI (n + cf_cn p0 4) := ex_3.trans (nI_add n _)
        refine lv_sipush (v := 1600) hx hb dM_put_95 (by decide) ?_
        refine lv_icmp_le (tgt := 105) hx hb dM_put_98 (by decide) (fun _ => ?_) (fun c_5 => absurd (by rw [ez_4]; exact nI_le hroom (by decide)) c_5)
        refine lv_iconst (v := 0) hx hb dM_put_105 (by decide) ?_
        refine lv_iconst (v := 0) hx hb dM_put_106 (by decide) ?_
        refine cf_calli (wc := [(h0, .inr (12, fs))]) (wr := [(h2, .inl (K 0, 1600, .inl f))]) (va_runV (As := [.int 0, .int 0, .int 0]) (rest := []) ⟨hx, hb, hml, hown, hts⟩ (xM_refuse000 l D K _ h0 fs hfsl) (cwV 3 hts (cf_GV wv_2291 wv_2293 wv_63 wv_173 wv_2294) rfl rfl rfl (by decide +kernel) ⟨Nat.le_of_ble_eq_true rfl, Nat.le_of_ble_eq_true rfl⟩) (cf_preV (wc := [(h0, .inr (12, fs))]) hE hP hD hS hA rfl 0 rfl [0] rfl (by decide +kernel)) rfl rfl hl.1 rfl (lv_room (Nat.le_of_ble_eq_true rfl)) dM_put_107 ⟨Nat.le_of_ble_eq_true rfl, Nat.le_of_ble_eq_true rfl⟩) hP hD hS hA [0] [1] rfl rfl (by decide +kernel) (by decide +kernel) (fun r_6 _ H locs hw_7 hP hD hS => ?_)
        have hP : va_P D vwCl [(h2, .inl (K 0, 1600, .inl f)), (h0, .inr (12, (fs.set 0 (.int 0))))] H := hP
        have hD : va_D A [(h2, .inl (K 0, 1600, .inl f)), (h0, .inr (12, (fs.set 0 (.int 0))))] := hD
        subst hw_7
        refine lv_if_eq (tgt := 115) hx hb dM_put_110 (by decide) (fun _ => ?_) (fun c_8 => absurd (by decide) c_8)
        refine lv_iconst (v := 0) hx hb dM_put_115 (by decide) ?_
        refine lv_istore (lv' := [(4, .int 0), (3, .int 1), (2, .int (nI (cf_cn p0 4))), (0, .ref h0), (1, .int p0)]) hx hb dM_put_116 hl (by decide) rfl (fun ls hl => ?_)
        have loop2 : ∀ (n8 k : Nat), k ≤ 4 → 5 ≤ k + n8 → ∀ (H : Heap) (locs : List Loc) (ls : Array Slot), va_P D vwCl [(h0, .inr (12, ((fs.set 0 (.int 0)).set 2 (.int (nI (n + cf_cn p0 k)))))), (h2, .inl (K 0, 1600, .inl (cf_mf p0 n f k)))] H → va_D A [(h0, .inr (12, ((fs.set 0 (.int 0)).set 2 (.int (nI (n + cf_cn p0 k)))))), (h2, .inl (K 0, 1600, .inl (cf_mf p0 n f k)))] → va_S A s.heap H locs → lv_has ls 6 [(4, .int (nI k)), (0, .ref h0), (1, .int p0)] → W p l e ({ frames := 1, cells := 0, slots := 0, locals := 23 }) s m ([.ref h0, .int p0] : List Value).toArray below meth c H locs 0 0 (MQ below (va_Qi (fun (r : Int32) (_ : Unit) => r = nI (n + cf_cn p0 4)) (fun (_ : Unit) t => cf_At D A [(h0, .inr (12, ((fs.set 0 (.int 0)).set 2 (.int (nI (n + cf_cn p0 4)))))), (h2, .inl (K 0, 1600, .inl (cf_mf p0 n f 4)))] t) A) ([.ref h0, .int p0] : List Value).toArray s 0 0 A) (F0 m 118 ls []) := by
          intro n8
          induction n8 with
          | zero =>
            intro k h1 h2
            exact absurd h2 (by omega)
          | succ n8 ih2 =>
            intro k hk hn8 H locs ls hP hD hS hl
            refine lv_iload hx hb dM_put_118 (lv_at hl 0 rfl) ?_
            refine lv_iconst (v := 4) hx hb dM_put_120 (by decide) ?_
            refine lv_icmp_ge (tgt := 169) hx hb dM_put_121 (by decide) (fun c_9 => ?_) (fun c_9 => ?_)
            · obtain rfl : k = 4 := by have h9 := (nI_leI (a := 4) (b := k) (by omega) (by omega)).mp c_9; omega
              have hP : va_P D vwCl [(h0, .inr (12, ((fs.set 0 (.int 0)).set 2 (.int (nI (n + cf_cn p0 4)))))), (h2, .inl (K 0, 1600, .inl (cf_mf p0 n f 4)))] H := hP
              have hD : va_D A [(h0, .inr (12, ((fs.set 0 (.int 0)).set 2 (.int (nI (n + cf_cn p0 4)))))), (h2, .inl (K 0, 1600, .inl (cf_mf p0 n f 4)))] := hD
              refine lv_aload_n hx hb dM_put_169 rfl (lv_at hl 1 rfl) ?_
              refine va_get (D := D) (ci := 12) (v := .int (nI (n + cf_cn p0 4))) (C := RM) (T := TM) (N := 99) hx hb hts inM hown hK hP 0 rfl rfl 2 (by decide) (hts _ wv_1984) (fun _ h9 => h9) (List.getElem?_set_self (show 2 < (fs.set 0 (.int 0)).length by rw [List.length_set, hfsl]; decide)) dM_put_170 ?_
              exact cf_iret hx hb hr hlocks () rfl hP hD hS [0, 1] rfl (by decide +kernel) (Nat.le_of_ble_eq_true rfl) (Nat.le_of_ble_eq_true rfl) dM_put_173
            · have hlt : k < 4 := by
                rcases Nat.lt_or_ge k 4 with q | q
                · exact q
                · exact absurd (show (4 : Int32) ≤ nI k from nI_le q (by omega)) c_9
              refine lv_iload_n hx hb dM_put_124 rfl (lv_at hl 2 rfl) ?_
              refine lv_bipush (v := 8) hx hb dM_put_125 (by decide) ?_
              refine lv_iload hx hb dM_put_127 (lv_at hl 0 rfl) ?_
              refine lv_imul hx hb dM_put_129 ?_
              refine lv_topi (fun x_10 ex_10 => ?_)
              refine lv_ishr hx hb dM_put_130 ?_
              refine lv_topi (fun x_11 ex_11 => ?_)
              refine lv_sipush (v := 255) hx hb dM_put_131 (by decide) ?_
              refine lv_iand hx hb dM_put_134 ?_
              refine lv_topi (fun x_12 ex_12 => ?_)
              refine lv_istore (lv' := [(5, .int x_12), (4, .int (nI k)), (0, .ref h0), (1, .int p0)]) hx hb dM_put_135 hl (by decide) rfl (fun ls hl => ?_)
              have es_13 : x_12 = cf_sg p0 k := by rw [ex_12, ex_11, ex_10]; exact cf_sg_s p0 hlt
              by_cases h9 : cf_sg p0 k = 0
              · obtain rfl : x_12 = 0 := es_13.trans h9
                refine lv_iload hx hb dM_put_137 (lv_at hl 0 rfl) ?_
                refine lv_if_le (tgt := 163) hx hb dM_put_139 (by decide) (fun _ => ?_) (fun c_14 => absurd (by decide) c_14)
                obtain ⟨x_15, ex_15⟩ : ∃ y : Int32, y = nI k + 1 := ⟨_, rfl⟩
                refine lv_iinc (v := x_15) (lv' := [(4, .int x_15), (5, .int 0), (0, .ref h0), (1, .int p0)]) hx hb dM_put_163 hl (k := 1) rfl (by rw [ex_15]; rfl) (by decide) rfl (fun ls hl => ?_)
                obtain rfl : x_15 = nI (k + 1) := ex_15.trans (nI_1 k)
                refine lv_goto (tgt := 118) hx hb dM_put_166 (by decide) ?_
                rw [← cf_cn_0 h9, ← cf_mf_0 h9] at hP hD
                exact ih2 (k + 1) (by omega) (by omega) H locs ls hP hD hS (lv_sub hl [0, 2, 3] rfl)
              · have h7 : ¬ x_12 = 0 := fun q => h9 (es_13.symm.trans q)
                have h6 : ¬ x_12 ≤ 0 := fun q => cf_sg_pos h9 (es_13 ▸ q)
                have h4 := cf_cn_le p0 k
                refine lv_iload hx hb dM_put_137 (lv_at hl 0 rfl) ?_
                refine lv_if_le (tgt := 163) hx hb dM_put_139 (by decide) (fun c_16 => absurd c_16 h6) (fun _ => ?_)
                refine lv_aload_n hx hb dM_put_142 rfl (lv_at hl 2 rfl) ?_
                refine va_get (D := D) (ci := 12) (v := .ref h2) (C := RM) (T := TM) (N := 99) hx hb hts inM hown hK hP 0 rfl rfl 1 (by decide) (hts _ wv_1983) (fun _ h9 => h9) (by rw [List.getElem?_set_ne (by decide), List.getElem?_set_ne (by decide)]; exact hfs_signs) dM_put_143 ?_
                refine lv_aload_n hx hb dM_put_146 rfl (lv_at hl 2 rfl) ?_
                refine va_get (D := D) (ci := 12) (v := .int (nI (n + cf_cn p0 k))) (C := RM) (T := TM) (N := 99) hx hb hts inM hown hK hP 0 rfl rfl 2 (by decide) (hts _ wv_1984) (fun _ h9 => h9) (List.getElem?_set_self (show 2 < (fs.set 0 (.int 0)).length by rw [List.length_set, hfsl]; decide)) dM_put_147 ?_
                refine lv_iload hx hb dM_put_150 (lv_at hl 0 rfl) ?_
                refine va_iast (D := D) hx hb hK hP hD hS 1 0 rfl rfl (vp_in_nI (by have h8 := cf_cn_mono p0 (show k + 1 ≤ 4 by omega); have h5 := cf_cn_1 h9; omega) (by omega)) dM_put_152 (fun H locs hP hD hS => ?_)
                rw [nI_clamp (show (n + cf_cn p0 k) < 2 ^ 31 by omega)] at hP hD
                have hP : va_P D vwCl [(h0, .inr (12, ((fs.set 0 (.int 0)).set 2 (.int (nI (n + cf_cn p0 k)))))), (h2, .inl (K 0, 1600, .inl (upd (cf_mf p0 n f k) (n + cf_cn p0 k) x_12)))] H := hP
                have hD : va_D A [(h0, .inr (12, ((fs.set 0 (.int 0)).set 2 (.int (nI (n + cf_cn p0 k)))))), (h2, .inl (K 0, 1600, .inl (upd (cf_mf p0 n f k) (n + cf_cn p0 k) x_12)))] := hD
                refine lv_aload_n hx hb dM_put_153 rfl (lv_at hl 2 rfl) ?_
                refine lv_dup hx hb dM_put_154 rfl ?_
                refine va_get (D := D) (ci := 12) (v := .int (nI (n + cf_cn p0 k))) (C := RM) (T := TM) (N := 99) hx hb hts inM hown hK hP 0 rfl rfl 2 (by decide) (hts _ wv_1984) (fun _ h9 => h9) (List.getElem?_set_self (show 2 < (fs.set 0 (.int 0)).length by rw [List.length_set, hfsl]; decide)) dM_put_155 ?_
                refine lv_iconst (v := 1) hx hb dM_put_158 (by decide) ?_
                refine lv_iadd hx hb dM_put_159 ?_
                refine lv_topi (fun x_17 ex_17 => ?_)
                obtain rfl : x_17 = nI (n + cf_cn p0 k + 1) := ex_17.trans (nI_1 _)
                refine va_put (D := D) (ci := 12) (v := .int (nI (n + cf_cn p0 k + 1))) (ty := .int) (C := RM) (T := TM) (N := 99) hx hb hts inM tyM tyokM nmM hown hK hP hD hS 0 rfl rfl 2 (by decide) (hts _ wv_1984) (fun _ h9 => h9) rfl (by decide +kernel) rfl rfl (by rw [(List.length_set.trans (List.length_set.trans hfsl))]; decide) dM_put_160 (fun H locs hP hD hS => ?_)
                have hP : va_P D vwCl [(h0, .inr (12, (((fs.set 0 (.int 0)).set 2 (.int (nI (n + cf_cn p0 k)))).set 2 (.int (nI (n + cf_cn p0 k + 1)))))), (h2, .inl (K 0, 1600, .inl (upd (cf_mf p0 n f k) (n + cf_cn p0 k) x_12)))] H := hP
                have hD : va_D A [(h0, .inr (12, (((fs.set 0 (.int 0)).set 2 (.int (nI (n + cf_cn p0 k)))).set 2 (.int (nI (n + cf_cn p0 k + 1)))))), (h2, .inl (K 0, 1600, .inl (upd (cf_mf p0 n f k) (n + cf_cn p0 k) x_12)))] := hD
                obtain ⟨x_18, ex_18⟩ : ∃ y : Int32, y = nI k + 1 := ⟨_, rfl⟩
                refine lv_iinc (v := x_18) (lv' := [(4, .int x_18), (5, .int x_12), (0, .ref h0), (1, .int p0)]) hx hb dM_put_163 hl (k := 1) rfl (by rw [ex_18]; rfl) (by decide) rfl (fun ls hl => ?_)
                obtain rfl : x_18 = nI (k + 1) := ex_18.trans (nI_1 k)
                refine lv_goto (tgt := 118) hx hb dM_put_166 (by decide) ?_
                rw [List.set_set, es_13, show n + cf_cn p0 k + 1 = n + cf_cn p0 (k + 1) by rw [cf_cn_1 h9]; rfl, ← cf_mf_1 h9] at hP hD
                exact ih2 (k + 1) (by omega) (by omega) H locs ls hP hD hS (lv_sub hl [0, 2, 3] rfl)
        have hP : va_P D vwCl [(h0, .inr (12, ((fs.set 0 (.int 0)).set 2 (.int (nI (n + cf_cn p0 0)))))), (h2, .inl (K 0, 1600, .inl (cf_mf p0 n f 0)))] H := by rw [show (fs.set 0 (.int 0)).set 2 (.int (nI (n + cf_cn p0 0))) = (fs.set 0 (.int 0)) from cf_setself (by rw [List.getElem?_set_ne (by decide)]; exact hfs_size)]; exact hP.sub [1, 0] rfl
        have hD : va_D A [(h0, .inr (12, ((fs.set 0 (.int 0)).set 2 (.int (nI (n + cf_cn p0 0)))))), (h2, .inl (K 0, 1600, .inl (cf_mf p0 n f 0)))] := by rw [show (fs.set 0 (.int 0)).set 2 (.int (nI (n + cf_cn p0 0))) = (fs.set 0 (.int 0)) from cf_setself (by rw [List.getElem?_set_ne (by decide)]; exact hfs_size)]; exact hD.sub [1, 0] (by decide) rfl
        exact loop2 5 0 (by omega) (by omega) H locs ls hP hD hS (lv_sub hl [0, 3, 4] rfl)
      · have hlt : k < 4 := by
          rcases Nat.lt_or_ge k 4 with q | q
          · exact q
          · exact absurd (show (4 : Int32) ≤ nI k from nI_le q (by omega)) c_1
        refine lv_iload_n hx hb dM_put_13 rfl (lv_at hl 4 rfl) ?_
        refine lv_bipush (v := 8) hx hb dM_put_14 (by decide) ?_
        refine lv_iload hx hb dM_put_16 (lv_at hl 0 rfl) ?_
        refine lv_imul hx hb dM_put_18 ?_
        refine lv_topi (fun x_19 ex_19 => ?_)
        refine lv_ishr hx hb dM_put_19 ?_
        refine lv_topi (fun x_20 ex_20 => ?_)
        refine lv_sipush (v := 255) hx hb dM_put_20 (by decide) ?_
        refine lv_iand hx hb dM_put_23 ?_
        refine lv_topi (fun x_21 ex_21 => ?_)
        refine lv_istore (lv' := [(5, .int x_21), (4, .int (nI k)), (3, .int 1), (2, .int (nI (cf_cn p0 k))), (0, .ref h0), (1, .int p0)]) hx hb dM_put_24 hl (by decide) rfl (fun ls hl => ?_)
        have es_22 : x_21 = cf_sg p0 k := by rw [ex_21, ex_20, ex_19]; exact cf_sg_s p0 hlt
        by_cases h9 : cf_sg p0 k = 0
        · obtain rfl : x_21 = 0 := es_22.trans h9
          refine lv_iload_n hx hb dM_put_26 rfl (lv_at hl 2 rfl) ?_
          refine lv_if_eq (tgt := 58) hx hb dM_put_27 (by decide) (fun c_23 => absurd c_23 (by decide)) (fun _ => ?_)
          refine lv_iload hx hb dM_put_30 (lv_at hl 0 rfl) ?_
          refine lv_if_eq (tgt := 54) hx hb dM_put_32 (by decide) (fun _ => ?_) (fun c_24 => absurd (by decide) c_24)
          refine lv_iconst (v := 1) hx hb dM_put_54 (by decide) ?_
          refine lv_goto (tgt := 59) hx hb dM_put_55 (by decide) ?_
          refine lv_istore_n (lv' := [(3, .int 1), (5, .int 0), (4, .int (nI k)), (2, .int (nI (cf_cn p0 k))), (0, .ref h0), (1, .int p0)]) hx hb dM_put_59 rfl hl (by decide) rfl (fun ls hl => ?_)
          refine lv_iload hx hb dM_put_60 (lv_at hl 1 rfl) ?_
          refine lv_if_le (tgt := 71) hx hb dM_put_62 (by decide) (fun _ => ?_) (fun c_25 => absurd (by decide) c_25)
          refine lv_iload_n hx hb dM_put_71 rfl (lv_at hl 3 rfl) ?_
          refine lv_istore_n (lv' := [(2, .int (nI (cf_cn p0 k))), (3, .int 1), (5, .int 0), (4, .int (nI k)), (0, .ref h0), (1, .int p0)]) hx hb dM_put_72 rfl hl (by decide) rfl (fun ls hl => ?_)
          rw [← cf_cn_0 h9] at hl
          obtain ⟨x_26, ex_26⟩ : ∃ y : Int32, y = nI k + 1 := ⟨_, rfl⟩
          refine lv_iinc (v := x_26) (lv' := [(4, .int x_26), (2, .int (nI (cf_cn p0 (k + 1)))), (3, .int 1), (5, .int 0), (0, .ref h0), (1, .int p0)]) hx hb dM_put_73 hl (k := 3) rfl (by rw [ex_26]; rfl) (by decide) rfl (fun ls hl => ?_)
          obtain rfl : x_26 = nI (k + 1) := ex_26.trans (nI_1 k)
          refine lv_goto (tgt := 7) hx hb dM_put_76 (by decide) ?_
          exact ih (k + 1) (by omega) (by omega) ls (lv_sub hl [0, 2, 1, 4, 5] rfl)
        · have h7 : ¬ x_21 = 0 := fun q => h9 (es_22.symm.trans q)
          have h6 : ¬ x_21 ≤ 0 := fun q => cf_sg_pos h9 (es_22 ▸ q)
          have h4 := cf_cn_le p0 k
          refine lv_iload_n hx hb dM_put_26 rfl (lv_at hl 2 rfl) ?_
          refine lv_if_eq (tgt := 58) hx hb dM_put_27 (by decide) (fun c_27 => absurd c_27 (by decide)) (fun _ => ?_)
          refine lv_iload hx hb dM_put_30 (lv_at hl 0 rfl) ?_
          refine lv_if_eq (tgt := 54) hx hb dM_put_32 (by decide) (fun c_28 => absurd c_28 h7) (fun _ => ?_)
          refine lv_iload hx hb dM_put_35 (lv_at hl 0 rfl) ?_
          refine lv_bipush (v := 10) hx hb dM_put_37 (by decide) ?_
          refine lv_icmp_eq (tgt := 54) hx hb dM_put_39 (by decide) (fun c_29 => ?_) (fun c_29 => ?_)
          · refine lv_iconst (v := 1) hx hb dM_put_54 (by decide) ?_
            refine lv_goto (tgt := 59) hx hb dM_put_55 (by decide) ?_
            refine lv_istore_n (lv' := [(3, .int 1), (5, .int x_21), (4, .int (nI k)), (2, .int (nI (cf_cn p0 k))), (0, .ref h0), (1, .int p0)]) hx hb dM_put_59 rfl hl (by decide) rfl (fun ls hl => ?_)
            refine lv_iload hx hb dM_put_60 (lv_at hl 1 rfl) ?_
            refine lv_if_le (tgt := 71) hx hb dM_put_62 (by decide) (fun c_30 => absurd c_30 h6) (fun _ => ?_)
            refine lv_iload_n hx hb dM_put_65 rfl (lv_at hl 3 rfl) ?_
            refine lv_iconst (v := 1) hx hb dM_put_66 (by decide) ?_
            refine lv_iadd hx hb dM_put_67 ?_
            refine lv_topi (fun x_31 ex_31 => ?_)
            obtain rfl : x_31 = nI (cf_cn p0 (k + 1)) := by rw [ex_31, cf_cn_1 h9]; exact nI_1 _
            refine lv_goto (tgt := 72) hx hb dM_put_68 (by decide) ?_
            refine lv_istore_n (lv' := [(2, .int (nI (cf_cn p0 (k + 1)))), (3, .int 1), (5, .int x_21), (4, .int (nI k)), (0, .ref h0), (1, .int p0)]) hx hb dM_put_72 rfl hl (by decide) rfl (fun ls hl => ?_)
            obtain ⟨x_32, ex_32⟩ : ∃ y : Int32, y = nI k + 1 := ⟨_, rfl⟩
            refine lv_iinc (v := x_32) (lv' := [(4, .int x_32), (2, .int (nI (cf_cn p0 (k + 1)))), (3, .int 1), (5, .int x_21), (0, .ref h0), (1, .int p0)]) hx hb dM_put_73 hl (k := 3) rfl (by rw [ex_32]; rfl) (by decide) rfl (fun ls hl => ?_)
            obtain rfl : x_32 = nI (k + 1) := ex_32.trans (nI_1 k)
            refine lv_goto (tgt := 7) hx hb dM_put_76 (by decide) ?_
            exact ih (k + 1) (by omega) (by omega) ls (lv_sub hl [0, 2, 1, 4, 5] rfl)
          · refine lv_iload hx hb dM_put_42 (lv_at hl 0 rfl) ?_
            refine lv_bipush (v := 32) hx hb dM_put_44 (by decide) ?_
            refine lv_bipush (v := 126) hx hb dM_put_46 (by decide) ?_
            refine cf_pcalli (va_runS (As := [.int x_21, .int 32, .int 126]) (rest := []) ⟨hx, hb, hml, hown, hts⟩ (kM_in l x_21 32 126) (va_cwS 3 hts (cf_GS wv_2288 wv_2289 wv_173 wv_2290) rfl rfl rfl (by decide +kernel) ⟨Nat.le_of_ble_eq_true rfl, Nat.le_of_ble_eq_true rfl⟩) preEq rfl rfl hl.1 rfl (lv_room (Nat.le_of_ble_eq_true rfl)) dM_put_48 ⟨Nat.le_of_ble_eq_true rfl, Nat.le_of_ble_eq_true rfl⟩) (fun r_33 hw_34 => ?_)
            obtain rfl : r_33 = 1 := hw_34.elim (fun q => q.1) (fun q => absurd ((hgood k hlt).elim (fun z => absurd z h9) (fun z => z.elim (fun z => absurd (es_22.trans z) c_29) (fun z => show 32 ≤ x_21 ∧ x_21 ≤ 126 by rw [es_22]; exact z))) (fun z => q.2.elim (fun t => absurd z.1 (Int32.not_le.mpr t)) (fun t => absurd z.2 (Int32.not_le.mpr t))))
            refine lv_if_eq (tgt := 58) hx hb dM_put_51 (by decide) (fun c_35 => absurd c_35 (by decide)) (fun _ => ?_)
            refine lv_iconst (v := 1) hx hb dM_put_54 (by decide) ?_
            refine lv_goto (tgt := 59) hx hb dM_put_55 (by decide) ?_
            refine lv_istore_n (lv' := [(3, .int 1), (5, .int x_21), (4, .int (nI k)), (2, .int (nI (cf_cn p0 k))), (0, .ref h0), (1, .int p0)]) hx hb dM_put_59 rfl hl (by decide) rfl (fun ls hl => ?_)
            refine lv_iload hx hb dM_put_60 (lv_at hl 1 rfl) ?_
            refine lv_if_le (tgt := 71) hx hb dM_put_62 (by decide) (fun c_36 => absurd c_36 h6) (fun _ => ?_)
            refine lv_iload_n hx hb dM_put_65 rfl (lv_at hl 3 rfl) ?_
            refine lv_iconst (v := 1) hx hb dM_put_66 (by decide) ?_
            refine lv_iadd hx hb dM_put_67 ?_
            refine lv_topi (fun x_37 ex_37 => ?_)
            obtain rfl : x_37 = nI (cf_cn p0 (k + 1)) := by rw [ex_37, cf_cn_1 h9]; exact nI_1 _
            refine lv_goto (tgt := 72) hx hb dM_put_68 (by decide) ?_
            refine lv_istore_n (lv' := [(2, .int (nI (cf_cn p0 (k + 1)))), (3, .int 1), (5, .int x_21), (4, .int (nI k)), (0, .ref h0), (1, .int p0)]) hx hb dM_put_72 rfl hl (by decide) rfl (fun ls hl => ?_)
            obtain ⟨x_38, ex_38⟩ : ∃ y : Int32, y = nI k + 1 := ⟨_, rfl⟩
            refine lv_iinc (v := x_38) (lv' := [(4, .int x_38), (2, .int (nI (cf_cn p0 (k + 1)))), (3, .int 1), (5, .int x_21), (0, .ref h0), (1, .int p0)]) hx hb dM_put_73 hl (k := 3) rfl (by rw [ex_38]; rfl) (by decide) rfl (fun ls hl => ?_)
            obtain rfl : x_38 = nI (k + 1) := ex_38.trans (nI_1 k)
            refine lv_goto (tgt := 7) hx hb dM_put_76 (by decide) ?_
            exact ih (k + 1) (by omega) (by omega) ls (lv_sub hl [0, 2, 1, 4, 5] rfl)
  exact loop1 5 0 (by omega) (by omega) ls (lv_sub hl [0, 1, 2, 3, 4] rfl)
