def yRe_init : MethodName := ⟨"CellForge$Remaker", "<init>", "()V"⟩
abbrev cRe_init : ByteArray := prog_10_method_1_code
theorem dRe_init_0 : decode cRe_init 0 = .ok (.aload_n 0, 1) := by decide +kernel
theorem dRe_init_1 : decode cRe_init 1 = .ok (.invokespecial 3, 3) := by decide +kernel
theorem dRe_init_4 : decode cRe_init 4 = .ok (.aload_n 0, 1) := by decide +kernel
theorem dRe_init_5 : decode cRe_init 5 = .ok (.sipush 209, 3) := by decide +kernel
theorem dRe_init_8 : decode cRe_init 8 = .ok (.newarray .boolean, 2) := by decide +kernel
theorem dRe_init_10 : decode cRe_init 10 = .ok (.putfield 9, 3) := by decide +kernel
theorem dRe_init_13 : decode cRe_init 13 = .ok (.aload_n 0, 1) := by decide +kernel
theorem dRe_init_14 : decode cRe_init 14 = .ok (.sipush 209, 3) := by decide +kernel
theorem dRe_init_17 : decode cRe_init 17 = .ok (.newarray .int, 2) := by decide +kernel
theorem dRe_init_19 : decode cRe_init 19 = .ok (.putfield 15, 3) := by decide +kernel
theorem dRe_init_22 : decode cRe_init 22 = .ok (.aload_n 0, 1) := by decide +kernel
theorem dRe_init_23 : decode cRe_init 23 = .ok (.sipush 209, 3) := by decide +kernel
theorem dRe_init_26 : decode cRe_init 26 = .ok (.newarray .int, 2) := by decide +kernel
theorem dRe_init_28 : decode cRe_init 28 = .ok (.putfield 19, 3) := by decide +kernel
theorem dRe_init_31 : decode cRe_init 31 = .ok (.aload_n 0, 1) := by decide +kernel
theorem dRe_init_32 : decode cRe_init 32 = .ok (.sipush 209, 3) := by decide +kernel
theorem dRe_init_35 : decode cRe_init 35 = .ok (.newarray .boolean, 2) := by decide +kernel
theorem dRe_init_37 : decode cRe_init 37 = .ok (.putfield 22, 3) := by decide +kernel
theorem dRe_init_40 : decode cRe_init 40 = .ok (.aload_n 0, 1) := by decide +kernel
theorem dRe_init_41 : decode cRe_init 41 = .ok (.sipush 209, 3) := by decide +kernel
theorem dRe_init_44 : decode cRe_init 44 = .ok (.newarray .int, 2) := by decide +kernel
theorem dRe_init_46 : decode cRe_init 46 = .ok (.putfield 25, 3) := by decide +kernel
theorem dRe_init_49 : decode cRe_init 49 = .ok (.aload_n 0, 1) := by decide +kernel
theorem dRe_init_50 : decode cRe_init 50 = .ok (.sipush 210, 3) := by decide +kernel
theorem dRe_init_53 : decode cRe_init 53 = .ok (.newarray .int, 2) := by decide +kernel
theorem dRe_init_55 : decode cRe_init 55 = .ok (.putfield 28, 3) := by decide +kernel
theorem dRe_init_58 : decode cRe_init 58 = .ok (.aload_n 0, 1) := by decide +kernel
theorem dRe_init_59 : decode cRe_init 59 = .ok (.sipush 210, 3) := by decide +kernel
theorem dRe_init_62 : decode cRe_init 62 = .ok (.newarray .int, 2) := by decide +kernel
theorem dRe_init_64 : decode cRe_init 64 = .ok (.putfield 31, 3) := by decide +kernel
theorem dRe_init_67 : decode cRe_init 67 = .ok (.aload_n 0, 1) := by decide +kernel
theorem dRe_init_68 : decode cRe_init 68 = .ok (.bipush 81, 2) := by decide +kernel
theorem dRe_init_70 : decode cRe_init 70 = .ok (.newarray .int, 2) := by decide +kernel
theorem dRe_init_72 : decode cRe_init 72 = .ok (.putfield 34, 3) := by decide +kernel
theorem dRe_init_75 : decode cRe_init 75 = .ok (.aload_n 0, 1) := by decide +kernel
theorem dRe_init_76 : decode cRe_init 76 = .ok (.bipush 81, 2) := by decide +kernel
theorem dRe_init_78 : decode cRe_init 78 = .ok (.newarray .int, 2) := by decide +kernel
theorem dRe_init_80 : decode cRe_init 80 = .ok (.putfield 37, 3) := by decide +kernel
theorem dRe_init_83 : decode cRe_init 83 = .ok (.aload_n 0, 1) := by decide +kernel
theorem dRe_init_84 : decode cRe_init 84 = .ok (.bipush 16, 2) := by decide +kernel
theorem dRe_init_86 : decode cRe_init 86 = .ok (.newarray .int, 2) := by decide +kernel
theorem dRe_init_88 : decode cRe_init 88 = .ok (.putfield 40, 3) := by decide +kernel
theorem dRe_init_91 : decode cRe_init 91 = .ok (.iconst 0, 1) := by decide +kernel
theorem dRe_init_92 : decode cRe_init 92 = .ok (.istore_n 1, 1) := by decide +kernel
theorem dRe_init_93 : decode cRe_init 93 = .ok (.iload_n 1, 1) := by decide +kernel
theorem dRe_init_94 : decode cRe_init 94 = .ok (.aload_n 0, 1) := by decide +kernel
theorem dRe_init_95 : decode cRe_init 95 = .ok (.getfield 34, 3) := by decide +kernel
theorem dRe_init_98 : decode cRe_init 98 = .ok (.arraylength, 1) := by decide +kernel
theorem dRe_init_99 : decode cRe_init 99 = .ok (.if_icmp .ge 100, 3) := by decide +kernel
theorem dRe_init_102 : decode cRe_init 102 = .ok (.aload_n 0, 1) := by decide +kernel
theorem dRe_init_103 : decode cRe_init 103 = .ok (.getfield 34, 3) := by decide +kernel
theorem dRe_init_106 : decode cRe_init 106 = .ok (.iload_n 1, 1) := by decide +kernel
theorem dRe_init_107 : decode cRe_init 107 = .ok (.ldc 43, 2) := by decide +kernel
theorem dRe_init_109 : decode cRe_init 109 = .ok (.iastore, 1) := by decide +kernel
theorem dRe_init_110 : decode cRe_init 110 = .ok (.iconst 0, 1) := by decide +kernel
theorem dRe_init_111 : decode cRe_init 111 = .ok (.istore_n 2, 1) := by decide +kernel
theorem dRe_init_112 : decode cRe_init 112 = .ok (.iload_n 2, 1) := by decide +kernel
theorem dRe_init_113 : decode cRe_init 113 = .ok (.iconst 4, 1) := by decide +kernel
theorem dRe_init_114 : decode cRe_init 114 = .ok (.if_icmp .ge 79, 3) := by decide +kernel
theorem dRe_init_117 : decode cRe_init 117 = .ok (.iload_n 1, 1) := by decide +kernel
theorem dRe_init_118 : decode cRe_init 118 = .ok (.getstatic 44, 3) := by decide +kernel
theorem dRe_init_121 : decode cRe_init 121 = .ok (.iload_n 2, 1) := by decide +kernel
theorem dRe_init_122 : decode cRe_init 122 = .ok (.iaload, 1) := by decide +kernel
theorem dRe_init_123 : decode cRe_init 123 = .ok (.idiv, 1) := by decide +kernel
theorem dRe_init_124 : decode cRe_init 124 = .ok (.iconst 3, 1) := by decide +kernel
theorem dRe_init_125 : decode cRe_init 125 = .ok (.irem, 1) := by decide +kernel
theorem dRe_init_126 : decode cRe_init 126 = .ok (.istore_n 3, 1) := by decide +kernel
theorem dRe_init_127 : decode cRe_init 127 = .ok (.getstatic 47, 3) := by decide +kernel
theorem dRe_init_130 : decode cRe_init 130 = .ok (.iload_n 2, 1) := by decide +kernel
theorem dRe_init_131 : decode cRe_init 131 = .ok (.iaload, 1) := by decide +kernel
theorem dRe_init_132 : decode cRe_init 132 = .ok (.ldc 43, 2) := by decide +kernel
theorem dRe_init_134 : decode cRe_init 134 = .ok (.iand, 1) := by decide +kernel
theorem dRe_init_135 : decode cRe_init 135 = .ok (.istore 4, 2) := by decide +kernel
theorem dRe_init_137 : decode cRe_init 137 = .ok (.aload_n 0, 1) := by decide +kernel
theorem dRe_init_138 : decode cRe_init 138 = .ok (.getfield 34, 3) := by decide +kernel
theorem dRe_init_141 : decode cRe_init 141 = .ok (.iload_n 1, 1) := by decide +kernel
theorem dRe_init_142 : decode cRe_init 142 = .ok (.dup2, 1) := by decide +kernel
theorem dRe_init_143 : decode cRe_init 143 = .ok (.iaload, 1) := by decide +kernel
theorem dRe_init_144 : decode cRe_init 144 = .ok (.iload_n 3, 1) := by decide +kernel
theorem dRe_init_145 : decode cRe_init 145 = .ok (.ifCond .ne 8, 3) := by decide +kernel
theorem dRe_init_148 : decode cRe_init 148 = .ok (.ldc 43, 2) := by decide +kernel
theorem dRe_init_150 : decode cRe_init 150 = .ok (.goto 17, 3) := by decide +kernel
theorem dRe_init_153 : decode cRe_init 153 = .ok (.iload_n 3, 1) := by decide +kernel
theorem dRe_init_154 : decode cRe_init 154 = .ok (.iconst 1, 1) := by decide +kernel
theorem dRe_init_155 : decode cRe_init 155 = .ok (.if_icmp .ne 8, 3) := by decide +kernel
theorem dRe_init_158 : decode cRe_init 158 = .ok (.iload 4, 2) := by decide +kernel
theorem dRe_init_160 : decode cRe_init 160 = .ok (.goto 7, 3) := by decide +kernel
theorem dRe_init_163 : decode cRe_init 163 = .ok (.iload 4, 2) := by decide +kernel
theorem dRe_init_165 : decode cRe_init 165 = .ok (.iconst (-1), 1) := by decide +kernel
theorem dRe_init_166 : decode cRe_init 166 = .ok (.ixor, 1) := by decide +kernel
theorem dRe_init_167 : decode cRe_init 167 = .ok (.iand, 1) := by decide +kernel
theorem dRe_init_168 : decode cRe_init 168 = .ok (.iastore, 1) := by decide +kernel
theorem dRe_init_169 : decode cRe_init 169 = .ok (.aload_n 0, 1) := by decide +kernel
theorem dRe_init_170 : decode cRe_init 170 = .ok (.getfield 37, 3) := by decide +kernel
theorem dRe_init_173 : decode cRe_init 173 = .ok (.iload_n 1, 1) := by decide +kernel
theorem dRe_init_174 : decode cRe_init 174 = .ok (.dup2, 1) := by decide +kernel
theorem dRe_init_175 : decode cRe_init 175 = .ok (.iaload, 1) := by decide +kernel
theorem dRe_init_176 : decode cRe_init 176 = .ok (.iload_n 3, 1) := by decide +kernel
theorem dRe_init_177 : decode cRe_init 177 = .ok (.ifCond .ne 7, 3) := by decide +kernel
theorem dRe_init_180 : decode cRe_init 180 = .ok (.iconst 0, 1) := by decide +kernel
theorem dRe_init_181 : decode cRe_init 181 = .ok (.goto 4, 3) := by decide +kernel
theorem dRe_init_184 : decode cRe_init 184 = .ok (.iconst 1, 1) := by decide +kernel
theorem dRe_init_185 : decode cRe_init 185 = .ok (.iadd, 1) := by decide +kernel
theorem dRe_init_186 : decode cRe_init 186 = .ok (.iastore, 1) := by decide +kernel
theorem dRe_init_187 : decode cRe_init 187 = .ok (.iinc 2 1, 3) := by decide +kernel
theorem dRe_init_190 : decode cRe_init 190 = .ok (.goto (-78), 3) := by decide +kernel
theorem dRe_init_193 : decode cRe_init 193 = .ok (.iinc 1 1, 3) := by decide +kernel
theorem dRe_init_196 : decode cRe_init 196 = .ok (.goto (-103), 3) := by decide +kernel
theorem dRe_init_199 : decode cRe_init 199 = .ok (.return_, 1) := by decide +kernel
theorem wv_319 : Cond.methodLink "CellForge$Remaker" 3 (⟨"java/lang/Object", "<init>", "()V"⟩ : MethodName) ∈ cfB := cf_in 319 (by decide +kernel) rfl
theorem wv_325 : Cond.fieldLink "CellForge$Remaker" 9 "CellForge$Remaker" "needed" "[Z" ∈ cfB := cf_in 325 (by decide +kernel) rfl
theorem wv_326 : Cond.fieldLink "CellForge$Remaker" 15 "CellForge$Remaker" "uses" "[I" ∈ cfB := cf_in 326 (by decide +kernel) rfl
theorem wv_327 : Cond.fieldLink "CellForge$Remaker" 19 "CellForge$Remaker" "usesBetween" "[I" ∈ cfB := cf_in 327 (by decide +kernel) rfl
theorem wv_328 : Cond.fieldLink "CellForge$Remaker" 22 "CellForge$Remaker" "isApart" "[Z" ∈ cfB := cf_in 328 (by decide +kernel) rfl
theorem wv_329 : Cond.fieldLink "CellForge$Remaker" 25 "CellForge$Remaker" "fresh" "[I" ∈ cfB := cf_in 329 (by decide +kernel) rfl
theorem wv_330 : Cond.fieldLink "CellForge$Remaker" 28 "CellForge$Remaker" "waiting" "[I" ∈ cfB := cf_in 330 (by decide +kernel) rfl
theorem wv_331 : Cond.fieldLink "CellForge$Remaker" 31 "CellForge$Remaker" "row" "[I" ∈ cfB := cf_in 331 (by decide +kernel) rfl
theorem wv_333 : Cond.fieldLink "CellForge$Remaker" 34 "CellForge$Remaker" "productBits" "[I" ∈ cfB := cf_in 333 (by decide +kernel) rfl
theorem wv_334 : Cond.fieldLink "CellForge$Remaker" 37 "CellForge$Remaker" "productNodes" "[I" ∈ cfB := cf_in 334 (by decide +kernel) rfl
theorem wv_335 : Cond.fieldLink "CellForge$Remaker" 40 "CellForge$Remaker" "sum" "[I" ∈ cfB := cf_in 335 (by decide +kernel) rfl
theorem wv_320 : Cond.constant "CellForge$Remaker" 43 65535 ∈ cfB := cf_in 320 (by decide +kernel) rfl
theorem wv_321 : Cond.fieldLink "CellForge$Remaker" 44 "CellForge$Remaker" "POWERS" "[I" ∈ cfB := cf_in 321 (by decide +kernel) rfl
def cf_part (i j : Nat) : Int32 := nI i / cf_powers j - nI i / cf_powers j / 3 * 3
def cf_sel (v : Int32) (j : Nat) : Int32 := if v = 0 then 65535 else if v = 1 then cf_patterns j &&& 65535 else (cf_patterns j &&& 65535) ^^^ (-1)
def cf_pb (i : Nat) : Nat → Int32
  | 0 => 65535
  | j + 1 => cf_pb i j &&& cf_sel (cf_part i j) j
def cf_pn (i : Nat) : Nat → Int32
  | 0 => 0
  | j + 1 => cf_pn i j + (if cf_part i j = 0 then 0 else 1)
theorem cf_pw0 {j : Nat} (h : j < 4) : ¬ cf_powers j = 0 := by
  rcases (show j = 0 ∨ j = 1 ∨ j = 2 ∨ j = 3 by omega) with rfl | rfl | rfl | rfl <;> decide
def cf_ro (i : Nat) (f g : Nat → Int32) : Prop := (∀ k, k < i → f k = cf_pb k 4 ∧ g k = cf_pn k 4) ∧ ∀ k, i ≤ k → g k = 0
def cf_ri (i j : Nat) (f g : Nat → Int32) : Prop := (∀ k, k < i → f k = cf_pb k 4 ∧ g k = cf_pn k 4) ∧ (∀ k, i < k → g k = 0) ∧ f i = cf_pb i j ∧ g i = cf_pn i j
theorem cf_ri0 {i : Nat} {f g : Nat → Int32} (h : cf_ro i f g) : cf_ri i 0 (upd f i 65535) g :=
  ⟨fun k hk => ⟨by rw [pk_un (by omega)]; exact (h.1 k hk).1, (h.1 k hk).2⟩, fun k hk => h.2 k (by omega), pk_us, h.2 i (Nat.le_refl i)⟩
theorem cf_ri4 {i : Nat} {f g : Nat → Int32} (h : cf_ri i 4 f g) : cf_ro (i + 1) f g :=
  ⟨fun k hk => by
    rcases Nat.lt_or_ge k i with q | q
    · exact h.1 k q
    · obtain rfl : k = i := by omega
      exact ⟨h.2.2.1, h.2.2.2⟩, fun k hk => h.2.1 k (by omega)⟩
theorem cf_ri1 {i j : Nat} {f g : Nat → Int32} {v w x : Int32} (h : cf_ri i j f g) (hx : x = cf_part i j) (hv : v = f i &&& cf_sel x j) (hw : w = g i + (if x = 0 then 0 else 1)) : cf_ri i (j + 1) (upd f i v) (upd g i w) :=
  ⟨fun k hk => ⟨by rw [pk_un (by omega)]; exact (h.1 k hk).1, by rw [pk_un (by omega)]; exact (h.1 k hk).2⟩, fun k hk => by rw [pk_un (by omega)]; exact h.2.1 k hk, by rw [pk_us, hv, hx, h.2.2.1]; rfl, by rw [pk_us, hw, hx, h.2.2.2]; rfl⟩
set_option maxHeartbeats 4000000 in
set_option maxRecDepth 100000 in
theorem kRe_init (l : Launch) (D : va_G) (K : Nat → ClassId) (sz : Nat) (h0 : Nat) : Met l yRe_init (Cond.code yRe_init cRe_init 5 (Option.none : Option Jvm.ClassFile.FieldType) :: cfB) ({ frames := 1, cells := 10, slots := 1643, locals := 16 }) (va_Pc [.ref h0] (cf_Pre D K sz [(h0, .inr (7, [.null, .null, .null, .null, .null, .null, .null, .int 0, .null, .null, .null, .int 0]))])) (va_Qv (fun (u : (Nat → Int32) × (Nat → Int32) × (Nat → Nat)) => ∀ k, k < 81 → u.1 k = cf_pb k 4 ∧ u.2.1 k = cf_pn k 4) (fun (u : (Nat → Int32) × (Nat → Int32) × (Nat → Nat)) t => cf_At D (va_A [(h0, .inr (7, [.null, .null, .null, .null, .null, .null, .null, .int 0, .null, .null, .null, .int 0]))] sz) [(h0, .inr (7, [.ref (u.2.2 0), .ref (u.2.2 1), .ref (u.2.2 2), .ref (u.2.2 3), .ref (u.2.2 4), .ref (u.2.2 5), .ref (u.2.2 6), .int 0, .ref (u.2.2 7), .ref (u.2.2 8), .ref (u.2.2 9), .int 0])), ((u.2.2 0), .inl (K 3, 209, .inl (fun _ => 0))), ((u.2.2 1), .inl (K 0, 209, .inl (fun _ => 0))), ((u.2.2 2), .inl (K 0, 209, .inl (fun _ => 0))), ((u.2.2 3), .inl (K 3, 209, .inl (fun _ => 0))), ((u.2.2 4), .inl (K 0, 209, .inl (fun _ => 0))), ((u.2.2 5), .inl (K 0, 210, .inl (fun _ => 0))), ((u.2.2 6), .inl (K 0, 210, .inl (fun _ => 0))), ((u.2.2 7), .inl (K 0, 81, .inl u.1)), ((u.2.2 8), .inl (K 0, 81, .inl u.2.1)), ((u.2.2 9), .inl (K 0, 16, .inl (fun _ => 0)))] t) (va_A [(h0, .inr (7, [.null, .null, .null, .null, .null, .null, .null, .int 0, .null, .null, .null, .int 0]))] sz)) 10 1643 (va_A [(h0, .inr (7, [.null, .null, .null, .null, .null, .null, .null, .int 0, .null, .null, .null, .int 0]))] sz) := by
  refine cf_ofW (y := yRe_init) (As := [.ref h0]) (WS := [(h0, .inr (7, [.null, .null, .null, .null, .null, .null, .null, .int 0, .null, .null, .null, .int 0]))]) (maxL := 5) (fun A => (va_Qv (fun (u : (Nat → Int32) × (Nat → Int32) × (Nat → Nat)) => ∀ k, k < 81 → u.1 k = cf_pb k 4 ∧ u.2.1 k = cf_pn k 4) (fun (u : (Nat → Int32) × (Nat → Int32) × (Nat → Nat)) t => cf_At D A [(h0, .inr (7, [.ref (u.2.2 0), .ref (u.2.2 1), .ref (u.2.2 2), .ref (u.2.2 3), .ref (u.2.2 4), .ref (u.2.2 5), .ref (u.2.2 6), .int 0, .ref (u.2.2 7), .ref (u.2.2 8), .ref (u.2.2 9), .int 0])), ((u.2.2 0), .inl (K 3, 209, .inl (fun _ => 0))), ((u.2.2 1), .inl (K 0, 209, .inl (fun _ => 0))), ((u.2.2 2), .inl (K 0, 209, .inl (fun _ => 0))), ((u.2.2 3), .inl (K 3, 209, .inl (fun _ => 0))), ((u.2.2 4), .inl (K 0, 209, .inl (fun _ => 0))), ((u.2.2 5), .inl (K 0, 210, .inl (fun _ => 0))), ((u.2.2 6), .inl (K 0, 210, .inl (fun _ => 0))), ((u.2.2 7), .inl (K 0, 81, .inl u.1)), ((u.2.2 8), .inl (K 0, 81, .inl u.2.1)), ((u.2.2 9), .inl (K 0, 16, .inl (fun _ => 0)))] t) A)) (by decide) (Nat.le_of_ble_eq_true rfl) ?_
  intro p e s m below meth c A ls En hsz hA hP hD hE hS hl
  obtain ⟨hx, hb, hr, hts, hown, hlocks, hin, hml⟩ := En
  have hK := hE.k
  have hl : lv_has ls 5 [(0, .ref h0)] := hl
  obtain ⟨t1, hZ1, hT1⟩ := hE.2.2.2.2.1
  obtain ⟨t2, hZ2, hT2⟩ := hE.2.2.2.2.2.1
  refine lv_aload_n hx hb dRe_init_0 rfl (lv_at hl 0 rfl) ?_
  refine W.objInit hx hb hown (hts _ wv_319) (hts _ wv_197) (hts _ wv_198) rfl (by rw [hml]; exact hl.1) rfl dRe_init_1 (Nat.le_of_ble_eq_true rfl) (Nat.le_of_ble_eq_true rfl) ?_
  refine W.eq (g2 := F0 m 4 ls []) rfl ?_
  refine lv_aload_n hx hb dRe_init_4 rfl (lv_at hl 0 rfl) ?_
  refine lv_sipush (v := 209) hx hb dRe_init_5 (by decide) ?_
  refine cf_newa (D := D) (ty := .boolean) (N' := 209) (a0 := (209, .inl (fun _ => 0))) hx hb (hts _ wv_362) rfl (fun _ h => h) hK 3 rfl hP hD hS hA (fun _ => rfl) (by decide) (by decide) (by decide) (Nat.le_of_ble_eq_true rfl) (Nat.le_of_ble_eq_true rfl) dRe_init_8 (fun q_1 H hP hD hS => ?_)
  refine W.widen (k := 1) (n := 209) (Nat.le_of_ble_eq_true rfl) (Nat.le_of_ble_eq_true rfl) ?_
  refine va_putF (D := D) (ci := 7) (v := .ref q_1) (ty := (.array .boolean)) (C := RRe) (T := TRe) (N := 12) hx hb hts inRe tyRe tyokRe nmRe hown hK hP hD hS 0 rfl rfl 0 (by decide) (hts _ wv_325) (fun _ h9 => h9) rfl hin rfl (by decide +kernel) rfl rfl (Nat.le_of_ble_eq_true rfl) dRe_init_10 (fun H locs hP hD hS => ?_)
  have hP : va_P D vwCl [(h0, .inr (7, [.ref q_1, .null, .null, .null, .null, .null, .null, .int 0, .null, .null, .null, .int 0])), (q_1, .inl (K 3, 209, .inl (fun _ => 0)))] H := hP
  have hD : va_D A [(h0, .inr (7, [.ref q_1, .null, .null, .null, .null, .null, .null, .int 0, .null, .null, .null, .int 0])), (q_1, .inl (K 3, 209, .inl (fun _ => 0)))] := hD
  refine lv_aload_n hx hb dRe_init_13 rfl (lv_at hl 0 rfl) ?_
  refine lv_sipush (v := 209) hx hb dRe_init_14 (by decide) ?_
  refine cf_newa (D := D) (ty := .int) (N' := 209) (a0 := (209, .inl (fun _ => 0))) hx hb (hts _ wv_233) rfl (fun _ h => h) hK 0 rfl hP hD hS hA (fun _ => rfl) (by decide) (by decide) (by decide) (Nat.le_of_ble_eq_true rfl) (Nat.le_of_ble_eq_true rfl) dRe_init_17 (fun q_2 H hP hD hS => ?_)
  refine W.widen (k := 2) (n := 418) (Nat.le_of_ble_eq_true rfl) (Nat.le_of_ble_eq_true rfl) ?_
  refine va_putF (D := D) (ci := 7) (v := .ref q_2) (ty := (.array .int)) (C := RRe) (T := TRe) (N := 12) hx hb hts inRe tyRe tyokRe nmRe hown hK hP hD hS 0 rfl rfl 1 (by decide) (hts _ wv_326) (fun _ h9 => h9) rfl hin rfl (by decide +kernel) rfl rfl (Nat.le_of_ble_eq_true rfl) dRe_init_19 (fun H locs hP hD hS => ?_)
  have hP : va_P D vwCl [(h0, .inr (7, [.ref q_1, .ref q_2, .null, .null, .null, .null, .null, .int 0, .null, .null, .null, .int 0])), (q_1, .inl (K 3, 209, .inl (fun _ => 0))), (q_2, .inl (K 0, 209, .inl (fun _ => 0)))] H := hP
  have hD : va_D A [(h0, .inr (7, [.ref q_1, .ref q_2, .null, .null, .null, .null, .null, .int 0, .null, .null, .null, .int 0])), (q_1, .inl (K 3, 209, .inl (fun _ => 0))), (q_2, .inl (K 0, 209, .inl (fun _ => 0)))] := hD
  refine lv_aload_n hx hb dRe_init_22 rfl (lv_at hl 0 rfl) ?_
  refine lv_sipush (v := 209) hx hb dRe_init_23 (by decide) ?_
  refine cf_newa (D := D) (ty := .int) (N' := 209) (a0 := (209, .inl (fun _ => 0))) hx hb (hts _ wv_233) rfl (fun _ h => h) hK 0 rfl hP hD hS hA (fun _ => rfl) (by decide) (by decide) (by decide) (Nat.le_of_ble_eq_true rfl) (Nat.le_of_ble_eq_true rfl) dRe_init_26 (fun q_3 H hP hD hS => ?_)
  refine W.widen (k := 3) (n := 627) (Nat.le_of_ble_eq_true rfl) (Nat.le_of_ble_eq_true rfl) ?_
  refine va_putF (D := D) (ci := 7) (v := .ref q_3) (ty := (.array .int)) (C := RRe) (T := TRe) (N := 12) hx hb hts inRe tyRe tyokRe nmRe hown hK hP hD hS 0 rfl rfl 2 (by decide) (hts _ wv_327) (fun _ h9 => h9) rfl hin rfl (by decide +kernel) rfl rfl (Nat.le_of_ble_eq_true rfl) dRe_init_28 (fun H locs hP hD hS => ?_)
  have hP : va_P D vwCl [(h0, .inr (7, [.ref q_1, .ref q_2, .ref q_3, .null, .null, .null, .null, .int 0, .null, .null, .null, .int 0])), (q_1, .inl (K 3, 209, .inl (fun _ => 0))), (q_2, .inl (K 0, 209, .inl (fun _ => 0))), (q_3, .inl (K 0, 209, .inl (fun _ => 0)))] H := hP
  have hD : va_D A [(h0, .inr (7, [.ref q_1, .ref q_2, .ref q_3, .null, .null, .null, .null, .int 0, .null, .null, .null, .int 0])), (q_1, .inl (K 3, 209, .inl (fun _ => 0))), (q_2, .inl (K 0, 209, .inl (fun _ => 0))), (q_3, .inl (K 0, 209, .inl (fun _ => 0)))] := hD
  refine lv_aload_n hx hb dRe_init_31 rfl (lv_at hl 0 rfl) ?_
  refine lv_sipush (v := 209) hx hb dRe_init_32 (by decide) ?_
  refine cf_newa (D := D) (ty := .boolean) (N' := 209) (a0 := (209, .inl (fun _ => 0))) hx hb (hts _ wv_362) rfl (fun _ h => h) hK 3 rfl hP hD hS hA (fun _ => rfl) (by decide) (by decide) (by decide) (Nat.le_of_ble_eq_true rfl) (Nat.le_of_ble_eq_true rfl) dRe_init_35 (fun q_4 H hP hD hS => ?_)
  refine W.widen (k := 4) (n := 836) (Nat.le_of_ble_eq_true rfl) (Nat.le_of_ble_eq_true rfl) ?_
  refine va_putF (D := D) (ci := 7) (v := .ref q_4) (ty := (.array .boolean)) (C := RRe) (T := TRe) (N := 12) hx hb hts inRe tyRe tyokRe nmRe hown hK hP hD hS 0 rfl rfl 3 (by decide) (hts _ wv_328) (fun _ h9 => h9) rfl hin rfl (by decide +kernel) rfl rfl (Nat.le_of_ble_eq_true rfl) dRe_init_37 (fun H locs hP hD hS => ?_)
  have hP : va_P D vwCl [(h0, .inr (7, [.ref q_1, .ref q_2, .ref q_3, .ref q_4, .null, .null, .null, .int 0, .null, .null, .null, .int 0])), (q_1, .inl (K 3, 209, .inl (fun _ => 0))), (q_2, .inl (K 0, 209, .inl (fun _ => 0))), (q_3, .inl (K 0, 209, .inl (fun _ => 0))), (q_4, .inl (K 3, 209, .inl (fun _ => 0)))] H := hP
  have hD : va_D A [(h0, .inr (7, [.ref q_1, .ref q_2, .ref q_3, .ref q_4, .null, .null, .null, .int 0, .null, .null, .null, .int 0])), (q_1, .inl (K 3, 209, .inl (fun _ => 0))), (q_2, .inl (K 0, 209, .inl (fun _ => 0))), (q_3, .inl (K 0, 209, .inl (fun _ => 0))), (q_4, .inl (K 3, 209, .inl (fun _ => 0)))] := hD
  refine lv_aload_n hx hb dRe_init_40 rfl (lv_at hl 0 rfl) ?_
  refine lv_sipush (v := 209) hx hb dRe_init_41 (by decide) ?_
  refine cf_newa (D := D) (ty := .int) (N' := 209) (a0 := (209, .inl (fun _ => 0))) hx hb (hts _ wv_233) rfl (fun _ h => h) hK 0 rfl hP hD hS hA (fun _ => rfl) (by decide) (by decide) (by decide) (Nat.le_of_ble_eq_true rfl) (Nat.le_of_ble_eq_true rfl) dRe_init_44 (fun q_5 H hP hD hS => ?_)
  refine W.widen (k := 5) (n := 1045) (Nat.le_of_ble_eq_true rfl) (Nat.le_of_ble_eq_true rfl) ?_
  refine va_putF (D := D) (ci := 7) (v := .ref q_5) (ty := (.array .int)) (C := RRe) (T := TRe) (N := 12) hx hb hts inRe tyRe tyokRe nmRe hown hK hP hD hS 0 rfl rfl 4 (by decide) (hts _ wv_329) (fun _ h9 => h9) rfl hin rfl (by decide +kernel) rfl rfl (Nat.le_of_ble_eq_true rfl) dRe_init_46 (fun H locs hP hD hS => ?_)
  have hP : va_P D vwCl [(h0, .inr (7, [.ref q_1, .ref q_2, .ref q_3, .ref q_4, .ref q_5, .null, .null, .int 0, .null, .null, .null, .int 0])), (q_1, .inl (K 3, 209, .inl (fun _ => 0))), (q_2, .inl (K 0, 209, .inl (fun _ => 0))), (q_3, .inl (K 0, 209, .inl (fun _ => 0))), (q_4, .inl (K 3, 209, .inl (fun _ => 0))), (q_5, .inl (K 0, 209, .inl (fun _ => 0)))] H := hP
  have hD : va_D A [(h0, .inr (7, [.ref q_1, .ref q_2, .ref q_3, .ref q_4, .ref q_5, .null, .null, .int 0, .null, .null, .null, .int 0])), (q_1, .inl (K 3, 209, .inl (fun _ => 0))), (q_2, .inl (K 0, 209, .inl (fun _ => 0))), (q_3, .inl (K 0, 209, .inl (fun _ => 0))), (q_4, .inl (K 3, 209, .inl (fun _ => 0))), (q_5, .inl (K 0, 209, .inl (fun _ => 0)))] := hD
  refine lv_aload_n hx hb dRe_init_49 rfl (lv_at hl 0 rfl) ?_
  refine lv_sipush (v := 210) hx hb dRe_init_50 (by decide) ?_
  refine cf_newa (D := D) (ty := .int) (N' := 210) (a0 := (210, .inl (fun _ => 0))) hx hb (hts _ wv_233) rfl (fun _ h => h) hK 0 rfl hP hD hS hA (fun _ => rfl) (by decide) (by decide) (by decide) (Nat.le_of_ble_eq_true rfl) (Nat.le_of_ble_eq_true rfl) dRe_init_53 (fun q_6 H hP hD hS => ?_)
  refine W.widen (k := 6) (n := 1255) (Nat.le_of_ble_eq_true rfl) (Nat.le_of_ble_eq_true rfl) ?_
  refine va_putF (D := D) (ci := 7) (v := .ref q_6) (ty := (.array .int)) (C := RRe) (T := TRe) (N := 12) hx hb hts inRe tyRe tyokRe nmRe hown hK hP hD hS 0 rfl rfl 5 (by decide) (hts _ wv_330) (fun _ h9 => h9) rfl hin rfl (by decide +kernel) rfl rfl (Nat.le_of_ble_eq_true rfl) dRe_init_55 (fun H locs hP hD hS => ?_)
  have hP : va_P D vwCl [(h0, .inr (7, [.ref q_1, .ref q_2, .ref q_3, .ref q_4, .ref q_5, .ref q_6, .null, .int 0, .null, .null, .null, .int 0])), (q_1, .inl (K 3, 209, .inl (fun _ => 0))), (q_2, .inl (K 0, 209, .inl (fun _ => 0))), (q_3, .inl (K 0, 209, .inl (fun _ => 0))), (q_4, .inl (K 3, 209, .inl (fun _ => 0))), (q_5, .inl (K 0, 209, .inl (fun _ => 0))), (q_6, .inl (K 0, 210, .inl (fun _ => 0)))] H := hP
  have hD : va_D A [(h0, .inr (7, [.ref q_1, .ref q_2, .ref q_3, .ref q_4, .ref q_5, .ref q_6, .null, .int 0, .null, .null, .null, .int 0])), (q_1, .inl (K 3, 209, .inl (fun _ => 0))), (q_2, .inl (K 0, 209, .inl (fun _ => 0))), (q_3, .inl (K 0, 209, .inl (fun _ => 0))), (q_4, .inl (K 3, 209, .inl (fun _ => 0))), (q_5, .inl (K 0, 209, .inl (fun _ => 0))), (q_6, .inl (K 0, 210, .inl (fun _ => 0)))] := hD
  refine lv_aload_n hx hb dRe_init_58 rfl (lv_at hl 0 rfl) ?_
  refine lv_sipush (v := 210) hx hb dRe_init_59 (by decide) ?_
  refine cf_newa (D := D) (ty := .int) (N' := 210) (a0 := (210, .inl (fun _ => 0))) hx hb (hts _ wv_233) rfl (fun _ h => h) hK 0 rfl hP hD hS hA (fun _ => rfl) (by decide) (by decide) (by decide) (Nat.le_of_ble_eq_true rfl) (Nat.le_of_ble_eq_true rfl) dRe_init_62 (fun q_7 H hP hD hS => ?_)
  refine W.widen (k := 7) (n := 1465) (Nat.le_of_ble_eq_true rfl) (Nat.le_of_ble_eq_true rfl) ?_
  refine va_putF (D := D) (ci := 7) (v := .ref q_7) (ty := (.array .int)) (C := RRe) (T := TRe) (N := 12) hx hb hts inRe tyRe tyokRe nmRe hown hK hP hD hS 0 rfl rfl 6 (by decide) (hts _ wv_331) (fun _ h9 => h9) rfl hin rfl (by decide +kernel) rfl rfl (Nat.le_of_ble_eq_true rfl) dRe_init_64 (fun H locs hP hD hS => ?_)
  have hP : va_P D vwCl [(h0, .inr (7, [.ref q_1, .ref q_2, .ref q_3, .ref q_4, .ref q_5, .ref q_6, .ref q_7, .int 0, .null, .null, .null, .int 0])), (q_1, .inl (K 3, 209, .inl (fun _ => 0))), (q_2, .inl (K 0, 209, .inl (fun _ => 0))), (q_3, .inl (K 0, 209, .inl (fun _ => 0))), (q_4, .inl (K 3, 209, .inl (fun _ => 0))), (q_5, .inl (K 0, 209, .inl (fun _ => 0))), (q_6, .inl (K 0, 210, .inl (fun _ => 0))), (q_7, .inl (K 0, 210, .inl (fun _ => 0)))] H := hP
  have hD : va_D A [(h0, .inr (7, [.ref q_1, .ref q_2, .ref q_3, .ref q_4, .ref q_5, .ref q_6, .ref q_7, .int 0, .null, .null, .null, .int 0])), (q_1, .inl (K 3, 209, .inl (fun _ => 0))), (q_2, .inl (K 0, 209, .inl (fun _ => 0))), (q_3, .inl (K 0, 209, .inl (fun _ => 0))), (q_4, .inl (K 3, 209, .inl (fun _ => 0))), (q_5, .inl (K 0, 209, .inl (fun _ => 0))), (q_6, .inl (K 0, 210, .inl (fun _ => 0))), (q_7, .inl (K 0, 210, .inl (fun _ => 0)))] := hD
  refine lv_aload_n hx hb dRe_init_67 rfl (lv_at hl 0 rfl) ?_
  refine lv_bipush (v := 81) hx hb dRe_init_68 (by decide) ?_
  refine cf_newa (D := D) (ty := .int) (N' := 81) (a0 := (81, .inl (fun _ => 0))) hx hb (hts _ wv_233) rfl (fun _ h => h) hK 0 rfl hP hD hS hA (fun _ => rfl) (by decide) (by decide) (by decide) (Nat.le_of_ble_eq_true rfl) (Nat.le_of_ble_eq_true rfl) dRe_init_70 (fun q_8 H hP hD hS => ?_)
  refine W.widen (k := 8) (n := 1546) (Nat.le_of_ble_eq_true rfl) (Nat.le_of_ble_eq_true rfl) ?_
  refine va_putF (D := D) (ci := 7) (v := .ref q_8) (ty := (.array .int)) (C := RRe) (T := TRe) (N := 12) hx hb hts inRe tyRe tyokRe nmRe hown hK hP hD hS 0 rfl rfl 8 (by decide) (hts _ wv_333) (fun _ h9 => h9) rfl hin rfl (by decide +kernel) rfl rfl (Nat.le_of_ble_eq_true rfl) dRe_init_72 (fun H locs hP hD hS => ?_)
  have hP : va_P D vwCl [(h0, .inr (7, [.ref q_1, .ref q_2, .ref q_3, .ref q_4, .ref q_5, .ref q_6, .ref q_7, .int 0, .ref q_8, .null, .null, .int 0])), (q_1, .inl (K 3, 209, .inl (fun _ => 0))), (q_2, .inl (K 0, 209, .inl (fun _ => 0))), (q_3, .inl (K 0, 209, .inl (fun _ => 0))), (q_4, .inl (K 3, 209, .inl (fun _ => 0))), (q_5, .inl (K 0, 209, .inl (fun _ => 0))), (q_6, .inl (K 0, 210, .inl (fun _ => 0))), (q_7, .inl (K 0, 210, .inl (fun _ => 0))), (q_8, .inl (K 0, 81, .inl (fun _ => 0)))] H := hP
  have hD : va_D A [(h0, .inr (7, [.ref q_1, .ref q_2, .ref q_3, .ref q_4, .ref q_5, .ref q_6, .ref q_7, .int 0, .ref q_8, .null, .null, .int 0])), (q_1, .inl (K 3, 209, .inl (fun _ => 0))), (q_2, .inl (K 0, 209, .inl (fun _ => 0))), (q_3, .inl (K 0, 209, .inl (fun _ => 0))), (q_4, .inl (K 3, 209, .inl (fun _ => 0))), (q_5, .inl (K 0, 209, .inl (fun _ => 0))), (q_6, .inl (K 0, 210, .inl (fun _ => 0))), (q_7, .inl (K 0, 210, .inl (fun _ => 0))), (q_8, .inl (K 0, 81, .inl (fun _ => 0)))] := hD
  refine lv_aload_n hx hb dRe_init_75 rfl (lv_at hl 0 rfl) ?_
  refine lv_bipush (v := 81) hx hb dRe_init_76 (by decide) ?_
  refine cf_newa (D := D) (ty := .int) (N' := 81) (a0 := (81, .inl (fun _ => 0))) hx hb (hts _ wv_233) rfl (fun _ h => h) hK 0 rfl hP hD hS hA (fun _ => rfl) (by decide) (by decide) (by decide) (Nat.le_of_ble_eq_true rfl) (Nat.le_of_ble_eq_true rfl) dRe_init_78 (fun q_9 H hP hD hS => ?_)
  refine W.widen (k := 9) (n := 1627) (Nat.le_of_ble_eq_true rfl) (Nat.le_of_ble_eq_true rfl) ?_
  refine va_putF (D := D) (ci := 7) (v := .ref q_9) (ty := (.array .int)) (C := RRe) (T := TRe) (N := 12) hx hb hts inRe tyRe tyokRe nmRe hown hK hP hD hS 0 rfl rfl 9 (by decide) (hts _ wv_334) (fun _ h9 => h9) rfl hin rfl (by decide +kernel) rfl rfl (Nat.le_of_ble_eq_true rfl) dRe_init_80 (fun H locs hP hD hS => ?_)
  have hP : va_P D vwCl [(h0, .inr (7, [.ref q_1, .ref q_2, .ref q_3, .ref q_4, .ref q_5, .ref q_6, .ref q_7, .int 0, .ref q_8, .ref q_9, .null, .int 0])), (q_1, .inl (K 3, 209, .inl (fun _ => 0))), (q_2, .inl (K 0, 209, .inl (fun _ => 0))), (q_3, .inl (K 0, 209, .inl (fun _ => 0))), (q_4, .inl (K 3, 209, .inl (fun _ => 0))), (q_5, .inl (K 0, 209, .inl (fun _ => 0))), (q_6, .inl (K 0, 210, .inl (fun _ => 0))), (q_7, .inl (K 0, 210, .inl (fun _ => 0))), (q_8, .inl (K 0, 81, .inl (fun _ => 0))), (q_9, .inl (K 0, 81, .inl (fun _ => 0)))] H := hP
  have hD : va_D A [(h0, .inr (7, [.ref q_1, .ref q_2, .ref q_3, .ref q_4, .ref q_5, .ref q_6, .ref q_7, .int 0, .ref q_8, .ref q_9, .null, .int 0])), (q_1, .inl (K 3, 209, .inl (fun _ => 0))), (q_2, .inl (K 0, 209, .inl (fun _ => 0))), (q_3, .inl (K 0, 209, .inl (fun _ => 0))), (q_4, .inl (K 3, 209, .inl (fun _ => 0))), (q_5, .inl (K 0, 209, .inl (fun _ => 0))), (q_6, .inl (K 0, 210, .inl (fun _ => 0))), (q_7, .inl (K 0, 210, .inl (fun _ => 0))), (q_8, .inl (K 0, 81, .inl (fun _ => 0))), (q_9, .inl (K 0, 81, .inl (fun _ => 0)))] := hD
  refine lv_aload_n hx hb dRe_init_83 rfl (lv_at hl 0 rfl) ?_
  refine lv_bipush (v := 16) hx hb dRe_init_84 (by decide) ?_
  refine cf_newa (D := D) (ty := .int) (N' := 16) (a0 := (16, .inl (fun _ => 0))) hx hb (hts _ wv_233) rfl (fun _ h => h) hK 0 rfl hP hD hS hA (fun _ => rfl) (by decide) (by decide) (by decide) (Nat.le_of_ble_eq_true rfl) (Nat.le_of_ble_eq_true rfl) dRe_init_86 (fun q_10 H hP hD hS => ?_)
  refine W.widen (k := 10) (n := 1643) (Nat.le_of_ble_eq_true rfl) (Nat.le_of_ble_eq_true rfl) ?_
  refine va_putF (D := D) (ci := 7) (v := .ref q_10) (ty := (.array .int)) (C := RRe) (T := TRe) (N := 12) hx hb hts inRe tyRe tyokRe nmRe hown hK hP hD hS 0 rfl rfl 10 (by decide) (hts _ wv_335) (fun _ h9 => h9) rfl hin rfl (by decide +kernel) rfl rfl (Nat.le_of_ble_eq_true rfl) dRe_init_88 (fun H locs hP hD hS => ?_)
  have hP : va_P D vwCl [(h0, .inr (7, [.ref q_1, .ref q_2, .ref q_3, .ref q_4, .ref q_5, .ref q_6, .ref q_7, .int 0, .ref q_8, .ref q_9, .ref q_10, .int 0])), (q_1, .inl (K 3, 209, .inl (fun _ => 0))), (q_2, .inl (K 0, 209, .inl (fun _ => 0))), (q_3, .inl (K 0, 209, .inl (fun _ => 0))), (q_4, .inl (K 3, 209, .inl (fun _ => 0))), (q_5, .inl (K 0, 209, .inl (fun _ => 0))), (q_6, .inl (K 0, 210, .inl (fun _ => 0))), (q_7, .inl (K 0, 210, .inl (fun _ => 0))), (q_8, .inl (K 0, 81, .inl (fun _ => 0))), (q_9, .inl (K 0, 81, .inl (fun _ => 0))), (q_10, .inl (K 0, 16, .inl (fun _ => 0)))] H := hP
  have hD : va_D A [(h0, .inr (7, [.ref q_1, .ref q_2, .ref q_3, .ref q_4, .ref q_5, .ref q_6, .ref q_7, .int 0, .ref q_8, .ref q_9, .ref q_10, .int 0])), (q_1, .inl (K 3, 209, .inl (fun _ => 0))), (q_2, .inl (K 0, 209, .inl (fun _ => 0))), (q_3, .inl (K 0, 209, .inl (fun _ => 0))), (q_4, .inl (K 3, 209, .inl (fun _ => 0))), (q_5, .inl (K 0, 209, .inl (fun _ => 0))), (q_6, .inl (K 0, 210, .inl (fun _ => 0))), (q_7, .inl (K 0, 210, .inl (fun _ => 0))), (q_8, .inl (K 0, 81, .inl (fun _ => 0))), (q_9, .inl (K 0, 81, .inl (fun _ => 0))), (q_10, .inl (K 0, 16, .inl (fun _ => 0)))] := hD
  refine lv_iconst (v := 0) hx hb dRe_init_91 (by decide) ?_
  refine lv_istore_n (lv' := [(1, .int 0), (0, .ref h0)]) hx hb dRe_init_92 rfl hl (by decide) rfl (fun ls hl => ?_)
  have outer : ∀ (n i : Nat), i ≤ 81 → 82 ≤ i + n → ∀ (f g : Nat → Int32) (H : Heap) (locs : List Loc) (ls : Array Slot), cf_ro i f g → va_P D vwCl [(h0, .inr (7, [.ref q_1, .ref q_2, .ref q_3, .ref q_4, .ref q_5, .ref q_6, .ref q_7, .int 0, .ref q_8, .ref q_9, .ref q_10, .int 0])), (q_1, .inl (K 3, 209, .inl (fun _ => 0))), (q_2, .inl (K 0, 209, .inl (fun _ => 0))), (q_3, .inl (K 0, 209, .inl (fun _ => 0))), (q_4, .inl (K 3, 209, .inl (fun _ => 0))), (q_5, .inl (K 0, 209, .inl (fun _ => 0))), (q_6, .inl (K 0, 210, .inl (fun _ => 0))), (q_7, .inl (K 0, 210, .inl (fun _ => 0))), (q_8, .inl (K 0, 81, .inl f)), (q_9, .inl (K 0, 81, .inl g)), (q_10, .inl (K 0, 16, .inl (fun _ => 0)))] H → va_D A [(h0, .inr (7, [.ref q_1, .ref q_2, .ref q_3, .ref q_4, .ref q_5, .ref q_6, .ref q_7, .int 0, .ref q_8, .ref q_9, .ref q_10, .int 0])), (q_1, .inl (K 3, 209, .inl (fun _ => 0))), (q_2, .inl (K 0, 209, .inl (fun _ => 0))), (q_3, .inl (K 0, 209, .inl (fun _ => 0))), (q_4, .inl (K 3, 209, .inl (fun _ => 0))), (q_5, .inl (K 0, 209, .inl (fun _ => 0))), (q_6, .inl (K 0, 210, .inl (fun _ => 0))), (q_7, .inl (K 0, 210, .inl (fun _ => 0))), (q_8, .inl (K 0, 81, .inl f)), (q_9, .inl (K 0, 81, .inl g)), (q_10, .inl (K 0, 16, .inl (fun _ => 0)))] → va_S A s.heap H locs → lv_has ls 5 [(1, .int (nI i)), (0, .ref h0)] → W p l e ({ frames := 1, cells := 10, slots := 1643, locals := 16 }) s m ([.ref h0] : List Value).toArray below meth c H locs 10 1643 (MQ below (va_Qv (fun (u : (Nat → Int32) × (Nat → Int32) × (Nat → Nat)) => ∀ k, k < 81 → u.1 k = cf_pb k 4 ∧ u.2.1 k = cf_pn k 4) (fun (u : (Nat → Int32) × (Nat → Int32) × (Nat → Nat)) t => cf_At D A [(h0, .inr (7, [.ref (u.2.2 0), .ref (u.2.2 1), .ref (u.2.2 2), .ref (u.2.2 3), .ref (u.2.2 4), .ref (u.2.2 5), .ref (u.2.2 6), .int 0, .ref (u.2.2 7), .ref (u.2.2 8), .ref (u.2.2 9), .int 0])), ((u.2.2 0), .inl (K 3, 209, .inl (fun _ => 0))), ((u.2.2 1), .inl (K 0, 209, .inl (fun _ => 0))), ((u.2.2 2), .inl (K 0, 209, .inl (fun _ => 0))), ((u.2.2 3), .inl (K 3, 209, .inl (fun _ => 0))), ((u.2.2 4), .inl (K 0, 209, .inl (fun _ => 0))), ((u.2.2 5), .inl (K 0, 210, .inl (fun _ => 0))), ((u.2.2 6), .inl (K 0, 210, .inl (fun _ => 0))), ((u.2.2 7), .inl (K 0, 81, .inl u.1)), ((u.2.2 8), .inl (K 0, 81, .inl u.2.1)), ((u.2.2 9), .inl (K 0, 16, .inl (fun _ => 0)))] t) A) ([.ref h0] : List Value).toArray s 10 1643 A) (F0 m 93 ls []) := by
    intro n
    induction n with
    | zero =>
      intro i h1 h2
      exact absurd h2 (by omega)
    | succ n ih =>
      intro i hi hn f g H locs ls hinv hP hD hS hl
      refine lv_iload_n hx hb dRe_init_93 rfl (lv_at hl 0 rfl) ?_
      refine lv_aload_n hx hb dRe_init_94 rfl (lv_at hl 1 rfl) ?_
      refine va_get (D := D) (ci := 7) (v := .ref q_8) (C := RRe) (T := TRe) (N := 12) hx hb hts inRe hown hK hP 0 rfl rfl 8 (by decide) (hts _ wv_333) (fun _ h9 => h9) rfl dRe_init_95 ?_
      refine va_alen (D := D) (v := 81) hx hb hK hP 8 0 rfl rfl rfl dRe_init_98 ?_
      refine lv_icmp_ge (tgt := 199) hx hb dRe_init_99 (by decide) (fun c_11 => ?_) (fun c_11 => ?_)
      · obtain rfl : i = 81 := by have h9 := (nI_leI (a := 81) (b := i) (by omega) (by omega)).mp c_11; omega
        have hex1 : ∀ k, k < 81 → f k = cf_pb k 4 ∧ g k = cf_pn k 4 := hinv.1
        exact cf_vret hx hb hr hlocks (f, g, (fun k => ([q_1, q_2, q_3, q_4, q_5, q_6, q_7, q_8, q_9, q_10] : List Nat).getD k 0)) hex1 hP hD hS [0, 1, 2, 3, 4, 5, 6, 7, 8, 9, 10] rfl (by decide +kernel) (Nat.le_of_ble_eq_true rfl) (Nat.le_of_ble_eq_true rfl) dRe_init_199
      · have hlt : i < 81 := by
          rcases Nat.lt_or_ge i 81 with q | q
          · exact q
          · exact absurd (show (81 : Int32) ≤ nI i from nI_le q (by omega)) c_11
        refine lv_aload_n hx hb dRe_init_102 rfl (lv_at hl 1 rfl) ?_
        refine va_get (D := D) (ci := 7) (v := .ref q_8) (C := RRe) (T := TRe) (N := 12) hx hb hts inRe hown hK hP 0 rfl rfl 8 (by decide) (hts _ wv_333) (fun _ h9 => h9) rfl dRe_init_103 ?_
        refine lv_iload_n hx hb dRe_init_106 rfl (lv_at hl 0 rfl) ?_
        refine lv_ldc (v := 65535) hx hb hown (hts _ wv_320) dRe_init_107 ?_
        refine va_iast (D := D) hx hb hK hP hD hS 8 0 rfl rfl (vp_in_nI (by omega) (by omega)) dRe_init_109 (fun H locs hP hD hS => ?_)
        rw [nI_clamp (show i < 2 ^ 31 by omega)] at hP hD
        have hP : va_P D vwCl [(h0, .inr (7, [.ref q_1, .ref q_2, .ref q_3, .ref q_4, .ref q_5, .ref q_6, .ref q_7, .int 0, .ref q_8, .ref q_9, .ref q_10, .int 0])), (q_1, .inl (K 3, 209, .inl (fun _ => 0))), (q_2, .inl (K 0, 209, .inl (fun _ => 0))), (q_3, .inl (K 0, 209, .inl (fun _ => 0))), (q_4, .inl (K 3, 209, .inl (fun _ => 0))), (q_5, .inl (K 0, 209, .inl (fun _ => 0))), (q_6, .inl (K 0, 210, .inl (fun _ => 0))), (q_7, .inl (K 0, 210, .inl (fun _ => 0))), (q_8, .inl (K 0, 81, .inl (upd f i 65535))), (q_9, .inl (K 0, 81, .inl g)), (q_10, .inl (K 0, 16, .inl (fun _ => 0)))] H := hP
        have hD : va_D A [(h0, .inr (7, [.ref q_1, .ref q_2, .ref q_3, .ref q_4, .ref q_5, .ref q_6, .ref q_7, .int 0, .ref q_8, .ref q_9, .ref q_10, .int 0])), (q_1, .inl (K 3, 209, .inl (fun _ => 0))), (q_2, .inl (K 0, 209, .inl (fun _ => 0))), (q_3, .inl (K 0, 209, .inl (fun _ => 0))), (q_4, .inl (K 3, 209, .inl (fun _ => 0))), (q_5, .inl (K 0, 209, .inl (fun _ => 0))), (q_6, .inl (K 0, 210, .inl (fun _ => 0))), (q_7, .inl (K 0, 210, .inl (fun _ => 0))), (q_8, .inl (K 0, 81, .inl (upd f i 65535))), (q_9, .inl (K 0, 81, .inl g)), (q_10, .inl (K 0, 16, .inl (fun _ => 0)))] := hD
        refine lv_iconst (v := 0) hx hb dRe_init_110 (by decide) ?_
        refine lv_istore_n (lv' := [(2, .int 0), (1, .int (nI i)), (0, .ref h0)]) hx hb dRe_init_111 rfl hl (by decide) rfl (fun ls hl => ?_)
        have inner : ∀ (n2 j : Nat), j ≤ 4 → 5 ≤ j + n2 → ∀ (f2 g2 : Nat → Int32) (H : Heap) (locs : List Loc) (ls : Array Slot), cf_ri i j f2 g2 → va_P D vwCl [(h0, .inr (7, [.ref q_1, .ref q_2, .ref q_3, .ref q_4, .ref q_5, .ref q_6, .ref q_7, .int 0, .ref q_8, .ref q_9, .ref q_10, .int 0])), (q_1, .inl (K 3, 209, .inl (fun _ => 0))), (q_2, .inl (K 0, 209, .inl (fun _ => 0))), (q_3, .inl (K 0, 209, .inl (fun _ => 0))), (q_4, .inl (K 3, 209, .inl (fun _ => 0))), (q_5, .inl (K 0, 209, .inl (fun _ => 0))), (q_6, .inl (K 0, 210, .inl (fun _ => 0))), (q_7, .inl (K 0, 210, .inl (fun _ => 0))), (q_8, .inl (K 0, 81, .inl f2)), (q_9, .inl (K 0, 81, .inl g2)), (q_10, .inl (K 0, 16, .inl (fun _ => 0)))] H → va_D A [(h0, .inr (7, [.ref q_1, .ref q_2, .ref q_3, .ref q_4, .ref q_5, .ref q_6, .ref q_7, .int 0, .ref q_8, .ref q_9, .ref q_10, .int 0])), (q_1, .inl (K 3, 209, .inl (fun _ => 0))), (q_2, .inl (K 0, 209, .inl (fun _ => 0))), (q_3, .inl (K 0, 209, .inl (fun _ => 0))), (q_4, .inl (K 3, 209, .inl (fun _ => 0))), (q_5, .inl (K 0, 209, .inl (fun _ => 0))), (q_6, .inl (K 0, 210, .inl (fun _ => 0))), (q_7, .inl (K 0, 210, .inl (fun _ => 0))), (q_8, .inl (K 0, 81, .inl f2)), (q_9, .inl (K 0, 81, .inl g2)), (q_10, .inl (K 0, 16, .inl (fun _ => 0)))] → va_S A s.heap H locs → lv_has ls 5 [(2, .int (nI j)), (1, .int (nI i)), (0, .ref h0)] → W p l e ({ frames := 1, cells := 10, slots := 1643, locals := 16 }) s m ([.ref h0] : List Value).toArray below meth c H locs 10 1643 (MQ below (va_Qv (fun (u : (Nat → Int32) × (Nat → Int32) × (Nat → Nat)) => ∀ k, k < 81 → u.1 k = cf_pb k 4 ∧ u.2.1 k = cf_pn k 4) (fun (u : (Nat → Int32) × (Nat → Int32) × (Nat → Nat)) t => cf_At D A [(h0, .inr (7, [.ref (u.2.2 0), .ref (u.2.2 1), .ref (u.2.2 2), .ref (u.2.2 3), .ref (u.2.2 4), .ref (u.2.2 5), .ref (u.2.2 6), .int 0, .ref (u.2.2 7), .ref (u.2.2 8), .ref (u.2.2 9), .int 0])), ((u.2.2 0), .inl (K 3, 209, .inl (fun _ => 0))), ((u.2.2 1), .inl (K 0, 209, .inl (fun _ => 0))), ((u.2.2 2), .inl (K 0, 209, .inl (fun _ => 0))), ((u.2.2 3), .inl (K 3, 209, .inl (fun _ => 0))), ((u.2.2 4), .inl (K 0, 209, .inl (fun _ => 0))), ((u.2.2 5), .inl (K 0, 210, .inl (fun _ => 0))), ((u.2.2 6), .inl (K 0, 210, .inl (fun _ => 0))), ((u.2.2 7), .inl (K 0, 81, .inl u.1)), ((u.2.2 8), .inl (K 0, 81, .inl u.2.1)), ((u.2.2 9), .inl (K 0, 16, .inl (fun _ => 0)))] t) A) ([.ref h0] : List Value).toArray s 10 1643 A) (F0 m 112 ls []) := by
          intro n2
          induction n2 with
          | zero =>
            intro j h1 h2
            exact absurd h2 (by omega)
          | succ n2 ih2 =>
            intro j hj hn2 f2 g2 H locs ls hinv2 hP hD hS hl
            refine lv_iload_n hx hb dRe_init_112 rfl (lv_at hl 0 rfl) ?_
            refine lv_iconst (v := 4) hx hb dRe_init_113 (by decide) ?_
            refine lv_icmp_ge (tgt := 193) hx hb dRe_init_114 (by decide) (fun c_12 => ?_) (fun c_12 => ?_)
            · obtain rfl : j = 4 := by have h9 := (nI_leI (a := 4) (b := j) (by omega) (by omega)).mp c_12; omega
              have hin4 := hinv2
              obtain ⟨x_13, ex_13⟩ : ∃ y : Int32, y = nI i + 1 := ⟨_, rfl⟩
              refine lv_iinc (v := x_13) (lv' := [(1, .int x_13), (2, .int (nI 4)), (0, .ref h0)]) hx hb dRe_init_193 hl (k := 1) rfl (by rw [ex_13]; rfl) (by decide) rfl (fun ls hl => ?_)
              obtain rfl : x_13 = nI (i + 1) := ex_13.trans (nI_1 i)
              refine lv_goto (tgt := 93) hx hb dRe_init_196 (by decide) ?_
              exact ih (i + 1) (by omega) (by omega) f2 g2 H locs ls (cf_ri4 hin4) hP hD hS (lv_sub hl [0, 2] rfl)
            · have hlt2 : j < 4 := by
                rcases Nat.lt_or_ge j 4 with q | q
                · exact q
                · exact absurd (show (4 : Int32) ≤ nI j from nI_le q (by omega)) c_12
              refine lv_iload_n hx hb dRe_init_117 rfl (lv_at hl 1 rfl) ?_
              refine va_gets hx hb hZ1 hS hown (hts _ wv_321) (fun _ h9 => h9) dRe_init_118 ?_
              refine lv_iload_n hx hb dRe_init_121 rfl (lv_at hl 0 rfl) ?_
              refine va_ti hx hb hT1 hS (i := nI j) (vp_in_nI (by omega) (by omega)) (v := .int (cf_powers j)) (by show Value.int (cf_powers (nI j).toNatClampNeg) = _; rw [nI_clamp (by omega)]) dRe_init_122 ?_
              refine lv_topi (fun x_14 ex_14 => ?_)
              refine lv_idiv hx hb dRe_init_123 (by rw [ex_14]; exact cf_pw0 hlt2) ?_
              refine lv_topi (fun x_15 ex_15 => ?_)
              refine lv_iconst (v := 3) hx hb dRe_init_124 (by decide) ?_
              refine lv_irem hx hb dRe_init_125 (by decide) ?_
              refine lv_topi (fun x_16 ex_16 => ?_)
              have hpt : x_16 = cf_part i j := by rw [ex_16, ex_15, ex_14]; rfl
              refine lv_istore_n (lv' := [(3, .int x_16), (2, .int (nI j)), (1, .int (nI i)), (0, .ref h0)]) hx hb dRe_init_126 rfl hl (by decide) rfl (fun ls hl => ?_)
              refine va_getsN hx hb hZ2 hS hown (va_Nw.use rfl (hE.n 4 rfl)) (fun _ h9 => h9) dRe_init_127 ?_
              refine lv_iload_n hx hb dRe_init_130 rfl (lv_at hl 1 rfl) ?_
              refine va_ti hx hb hT2 hS (i := nI j) (vp_in_nI (by omega) (by omega)) (v := .int (cf_patterns j)) (by show Value.int (cf_patterns (nI j).toNatClampNeg) = _; rw [nI_clamp (by omega)]) dRe_init_131 ?_
              refine lv_topi (fun x_17 ex_17 => ?_)
              refine lv_ldc (v := 65535) hx hb hown (hts _ wv_320) dRe_init_132 ?_
              refine lv_iand hx hb dRe_init_134 ?_
              refine lv_topi (fun x_18 ex_18 => ?_)
              refine lv_istore (lv' := [(4, .int x_18), (3, .int x_16), (2, .int (nI j)), (1, .int (nI i)), (0, .ref h0)]) hx hb dRe_init_135 hl (by decide) rfl (fun ls hl => ?_)
              refine lv_aload_n hx hb dRe_init_137 rfl (lv_at hl 4 rfl) ?_
              refine va_get (D := D) (ci := 7) (v := .ref q_8) (C := RRe) (T := TRe) (N := 12) hx hb hts inRe hown hK hP 0 rfl rfl 8 (by decide) (hts _ wv_333) (fun _ h9 => h9) rfl dRe_init_138 ?_
              refine lv_iload_n hx hb dRe_init_141 rfl (lv_at hl 3 rfl) ?_
              refine lv_dup2_11 hx hb dRe_init_142 rfl rfl ?_
              refine va_iald (D := D) hx hb hK hP 8 0 rfl rfl (vp_in_nI (by omega) (by omega)) dRe_init_143 ?_
              refine lv_topi (fun x_19 ex_19 => ?_)
              rw [nI_clamp (show i < 2 ^ 31 by omega)] at ex_19
              refine lv_iload_n hx hb dRe_init_144 rfl (lv_at hl 1 rfl) ?_
              refine lv_if_ne (tgt := 153) hx hb dRe_init_145 (by decide) (fun c_20 => ?_) (fun c_20 => ?_)
              · refine lv_iload_n hx hb dRe_init_153 rfl (lv_at hl 1 rfl) ?_
                refine lv_iconst (v := 1) hx hb dRe_init_154 (by decide) ?_
                refine lv_icmp_ne (tgt := 163) hx hb dRe_init_155 (by decide) (fun c_21 => ?_) (fun c_21 => ?_)
                · refine lv_iload hx hb dRe_init_163 (lv_at hl 0 rfl) ?_
                  refine lv_iconst (v := (-1)) hx hb dRe_init_165 (by decide) ?_
                  refine lv_ixor hx hb dRe_init_166 ?_
                  refine lv_topi (fun x_22 ex_22 => ?_)
                  refine lv_iand hx hb dRe_init_167 ?_
                  refine lv_topi (fun x_23 ex_23 => ?_)
                  refine va_iast (D := D) hx hb hK hP hD hS 8 0 rfl rfl (vp_in_nI (by omega) (by omega)) dRe_init_168 (fun H locs hP hD hS => ?_)
                  rw [nI_clamp (show i < 2 ^ 31 by omega)] at hP hD
                  have hP : va_P D vwCl [(h0, .inr (7, [.ref q_1, .ref q_2, .ref q_3, .ref q_4, .ref q_5, .ref q_6, .ref q_7, .int 0, .ref q_8, .ref q_9, .ref q_10, .int 0])), (q_1, .inl (K 3, 209, .inl (fun _ => 0))), (q_2, .inl (K 0, 209, .inl (fun _ => 0))), (q_3, .inl (K 0, 209, .inl (fun _ => 0))), (q_4, .inl (K 3, 209, .inl (fun _ => 0))), (q_5, .inl (K 0, 209, .inl (fun _ => 0))), (q_6, .inl (K 0, 210, .inl (fun _ => 0))), (q_7, .inl (K 0, 210, .inl (fun _ => 0))), (q_8, .inl (K 0, 81, .inl (upd f2 i x_23))), (q_9, .inl (K 0, 81, .inl g2)), (q_10, .inl (K 0, 16, .inl (fun _ => 0)))] H := hP
                  have hD : va_D A [(h0, .inr (7, [.ref q_1, .ref q_2, .ref q_3, .ref q_4, .ref q_5, .ref q_6, .ref q_7, .int 0, .ref q_8, .ref q_9, .ref q_10, .int 0])), (q_1, .inl (K 3, 209, .inl (fun _ => 0))), (q_2, .inl (K 0, 209, .inl (fun _ => 0))), (q_3, .inl (K 0, 209, .inl (fun _ => 0))), (q_4, .inl (K 3, 209, .inl (fun _ => 0))), (q_5, .inl (K 0, 209, .inl (fun _ => 0))), (q_6, .inl (K 0, 210, .inl (fun _ => 0))), (q_7, .inl (K 0, 210, .inl (fun _ => 0))), (q_8, .inl (K 0, 81, .inl (upd f2 i x_23))), (q_9, .inl (K 0, 81, .inl g2)), (q_10, .inl (K 0, 16, .inl (fun _ => 0)))] := hD
                  refine lv_aload_n hx hb dRe_init_169 rfl (lv_at hl 4 rfl) ?_
                  refine va_get (D := D) (ci := 7) (v := .ref q_9) (C := RRe) (T := TRe) (N := 12) hx hb hts inRe hown hK hP 0 rfl rfl 9 (by decide) (hts _ wv_334) (fun _ h9 => h9) rfl dRe_init_170 ?_
                  refine lv_iload_n hx hb dRe_init_173 rfl (lv_at hl 3 rfl) ?_
                  refine lv_dup2_11 hx hb dRe_init_174 rfl rfl ?_
                  refine va_iald (D := D) hx hb hK hP 9 0 rfl rfl (vp_in_nI (by omega) (by omega)) dRe_init_175 ?_
                  refine lv_topi (fun x_24 ex_24 => ?_)
                  rw [nI_clamp (show i < 2 ^ 31 by omega)] at ex_24
                  refine lv_iload_n hx hb dRe_init_176 rfl (lv_at hl 1 rfl) ?_
                  refine lv_if_ne (tgt := 184) hx hb dRe_init_177 (by decide) (fun _ => ?_) (fun c_25 => absurd c_25 c_20)
                  refine lv_iconst (v := 1) hx hb dRe_init_184 (by decide) ?_
                  refine lv_iadd hx hb dRe_init_185 ?_
                  refine lv_topi (fun x_26 ex_26 => ?_)
                  refine va_iast (D := D) hx hb hK hP hD hS 9 0 rfl rfl (vp_in_nI (by omega) (by omega)) dRe_init_186 (fun H locs hP hD hS => ?_)
                  rw [nI_clamp (show i < 2 ^ 31 by omega)] at hP hD
                  have hP : va_P D vwCl [(h0, .inr (7, [.ref q_1, .ref q_2, .ref q_3, .ref q_4, .ref q_5, .ref q_6, .ref q_7, .int 0, .ref q_8, .ref q_9, .ref q_10, .int 0])), (q_1, .inl (K 3, 209, .inl (fun _ => 0))), (q_2, .inl (K 0, 209, .inl (fun _ => 0))), (q_3, .inl (K 0, 209, .inl (fun _ => 0))), (q_4, .inl (K 3, 209, .inl (fun _ => 0))), (q_5, .inl (K 0, 209, .inl (fun _ => 0))), (q_6, .inl (K 0, 210, .inl (fun _ => 0))), (q_7, .inl (K 0, 210, .inl (fun _ => 0))), (q_8, .inl (K 0, 81, .inl (upd f2 i x_23))), (q_9, .inl (K 0, 81, .inl (upd g2 i x_26))), (q_10, .inl (K 0, 16, .inl (fun _ => 0)))] H := hP
                  have hD : va_D A [(h0, .inr (7, [.ref q_1, .ref q_2, .ref q_3, .ref q_4, .ref q_5, .ref q_6, .ref q_7, .int 0, .ref q_8, .ref q_9, .ref q_10, .int 0])), (q_1, .inl (K 3, 209, .inl (fun _ => 0))), (q_2, .inl (K 0, 209, .inl (fun _ => 0))), (q_3, .inl (K 0, 209, .inl (fun _ => 0))), (q_4, .inl (K 3, 209, .inl (fun _ => 0))), (q_5, .inl (K 0, 209, .inl (fun _ => 0))), (q_6, .inl (K 0, 210, .inl (fun _ => 0))), (q_7, .inl (K 0, 210, .inl (fun _ => 0))), (q_8, .inl (K 0, 81, .inl (upd f2 i x_23))), (q_9, .inl (K 0, 81, .inl (upd g2 i x_26))), (q_10, .inl (K 0, 16, .inl (fun _ => 0)))] := hD
                  obtain ⟨x_27, ex_27⟩ : ∃ y : Int32, y = nI j + 1 := ⟨_, rfl⟩
                  refine lv_iinc (v := x_27) (lv' := [(2, .int x_27), (4, .int x_18), (3, .int x_16), (1, .int (nI i)), (0, .ref h0)]) hx hb dRe_init_187 hl (k := 2) rfl (by rw [ex_27]; rfl) (by decide) rfl (fun ls hl => ?_)
                  obtain rfl : x_27 = nI (j + 1) := ex_27.trans (nI_1 j)
                  refine lv_goto (tgt := 112) hx hb dRe_init_190 (by decide) ?_
                  exact ih2 (j + 1) (by omega) (by omega) (upd f2 i x_23) (upd g2 i x_26) H locs ls (cf_ri1 (x := x_16) hinv2 hpt (by rw [ex_23, ex_19, ex_22, ex_18, ex_17]; unfold cf_sel; rw [if_neg c_20, if_neg c_21]) (by rw [ex_26, ex_24, if_neg c_20])) hP hD hS (lv_sub hl [0, 3, 4] rfl)
                · subst c_21
                  refine lv_iload hx hb dRe_init_158 (lv_at hl 0 rfl) ?_
                  refine lv_goto (tgt := 167) hx hb dRe_init_160 (by decide) ?_
                  refine lv_iand hx hb dRe_init_167 ?_
                  refine lv_topi (fun x_28 ex_28 => ?_)
                  refine va_iast (D := D) hx hb hK hP hD hS 8 0 rfl rfl (vp_in_nI (by omega) (by omega)) dRe_init_168 (fun H locs hP hD hS => ?_)
                  rw [nI_clamp (show i < 2 ^ 31 by omega)] at hP hD
                  have hP : va_P D vwCl [(h0, .inr (7, [.ref q_1, .ref q_2, .ref q_3, .ref q_4, .ref q_5, .ref q_6, .ref q_7, .int 0, .ref q_8, .ref q_9, .ref q_10, .int 0])), (q_1, .inl (K 3, 209, .inl (fun _ => 0))), (q_2, .inl (K 0, 209, .inl (fun _ => 0))), (q_3, .inl (K 0, 209, .inl (fun _ => 0))), (q_4, .inl (K 3, 209, .inl (fun _ => 0))), (q_5, .inl (K 0, 209, .inl (fun _ => 0))), (q_6, .inl (K 0, 210, .inl (fun _ => 0))), (q_7, .inl (K 0, 210, .inl (fun _ => 0))), (q_8, .inl (K 0, 81, .inl (upd f2 i x_28))), (q_9, .inl (K 0, 81, .inl g2)), (q_10, .inl (K 0, 16, .inl (fun _ => 0)))] H := hP
                  have hD : va_D A [(h0, .inr (7, [.ref q_1, .ref q_2, .ref q_3, .ref q_4, .ref q_5, .ref q_6, .ref q_7, .int 0, .ref q_8, .ref q_9, .ref q_10, .int 0])), (q_1, .inl (K 3, 209, .inl (fun _ => 0))), (q_2, .inl (K 0, 209, .inl (fun _ => 0))), (q_3, .inl (K 0, 209, .inl (fun _ => 0))), (q_4, .inl (K 3, 209, .inl (fun _ => 0))), (q_5, .inl (K 0, 209, .inl (fun _ => 0))), (q_6, .inl (K 0, 210, .inl (fun _ => 0))), (q_7, .inl (K 0, 210, .inl (fun _ => 0))), (q_8, .inl (K 0, 81, .inl (upd f2 i x_28))), (q_9, .inl (K 0, 81, .inl g2)), (q_10, .inl (K 0, 16, .inl (fun _ => 0)))] := hD
                  refine lv_aload_n hx hb dRe_init_169 rfl (lv_at hl 4 rfl) ?_
                  refine va_get (D := D) (ci := 7) (v := .ref q_9) (C := RRe) (T := TRe) (N := 12) hx hb hts inRe hown hK hP 0 rfl rfl 9 (by decide) (hts _ wv_334) (fun _ h9 => h9) rfl dRe_init_170 ?_
                  refine lv_iload_n hx hb dRe_init_173 rfl (lv_at hl 3 rfl) ?_
                  refine lv_dup2_11 hx hb dRe_init_174 rfl rfl ?_
                  refine va_iald (D := D) hx hb hK hP 9 0 rfl rfl (vp_in_nI (by omega) (by omega)) dRe_init_175 ?_
                  refine lv_topi (fun x_29 ex_29 => ?_)
                  rw [nI_clamp (show i < 2 ^ 31 by omega)] at ex_29
                  refine lv_iload_n hx hb dRe_init_176 rfl (lv_at hl 1 rfl) ?_
                  refine lv_if_ne (tgt := 184) hx hb dRe_init_177 (by decide) (fun _ => ?_) (fun c_30 => absurd c_30 (by decide))
                  refine lv_iconst (v := 1) hx hb dRe_init_184 (by decide) ?_
                  refine lv_iadd hx hb dRe_init_185 ?_
                  refine lv_topi (fun x_31 ex_31 => ?_)
                  refine va_iast (D := D) hx hb hK hP hD hS 9 0 rfl rfl (vp_in_nI (by omega) (by omega)) dRe_init_186 (fun H locs hP hD hS => ?_)
                  rw [nI_clamp (show i < 2 ^ 31 by omega)] at hP hD
                  have hP : va_P D vwCl [(h0, .inr (7, [.ref q_1, .ref q_2, .ref q_3, .ref q_4, .ref q_5, .ref q_6, .ref q_7, .int 0, .ref q_8, .ref q_9, .ref q_10, .int 0])), (q_1, .inl (K 3, 209, .inl (fun _ => 0))), (q_2, .inl (K 0, 209, .inl (fun _ => 0))), (q_3, .inl (K 0, 209, .inl (fun _ => 0))), (q_4, .inl (K 3, 209, .inl (fun _ => 0))), (q_5, .inl (K 0, 209, .inl (fun _ => 0))), (q_6, .inl (K 0, 210, .inl (fun _ => 0))), (q_7, .inl (K 0, 210, .inl (fun _ => 0))), (q_8, .inl (K 0, 81, .inl (upd f2 i x_28))), (q_9, .inl (K 0, 81, .inl (upd g2 i x_31))), (q_10, .inl (K 0, 16, .inl (fun _ => 0)))] H := hP
                  have hD : va_D A [(h0, .inr (7, [.ref q_1, .ref q_2, .ref q_3, .ref q_4, .ref q_5, .ref q_6, .ref q_7, .int 0, .ref q_8, .ref q_9, .ref q_10, .int 0])), (q_1, .inl (K 3, 209, .inl (fun _ => 0))), (q_2, .inl (K 0, 209, .inl (fun _ => 0))), (q_3, .inl (K 0, 209, .inl (fun _ => 0))), (q_4, .inl (K 3, 209, .inl (fun _ => 0))), (q_5, .inl (K 0, 209, .inl (fun _ => 0))), (q_6, .inl (K 0, 210, .inl (fun _ => 0))), (q_7, .inl (K 0, 210, .inl (fun _ => 0))), (q_8, .inl (K 0, 81, .inl (upd f2 i x_28))), (q_9, .inl (K 0, 81, .inl (upd g2 i x_31))), (q_10, .inl (K 0, 16, .inl (fun _ => 0)))] := hD
                  obtain ⟨x_32, ex_32⟩ : ∃ y : Int32, y = nI j + 1 := ⟨_, rfl⟩
                  refine lv_iinc (v := x_32) (lv' := [(2, .int x_32), (4, .int x_18), (3, .int 1), (1, .int (nI i)), (0, .ref h0)]) hx hb dRe_init_187 hl (k := 2) rfl (by rw [ex_32]; rfl) (by decide) rfl (fun ls hl => ?_)
                  obtain rfl : x_32 = nI (j + 1) := ex_32.trans (nI_1 j)
                  refine lv_goto (tgt := 112) hx hb dRe_init_190 (by decide) ?_
                  exact ih2 (j + 1) (by omega) (by omega) (upd f2 i x_28) (upd g2 i x_31) H locs ls (cf_ri1 (x := 1) hinv2 hpt (by rw [ex_28, ex_19, ex_18, ex_17]; rfl) (by rw [ex_31, ex_29]; rfl)) hP hD hS (lv_sub hl [0, 3, 4] rfl)
              · subst c_20
                refine lv_ldc (v := 65535) hx hb hown (hts _ wv_320) dRe_init_148 ?_
                refine lv_goto (tgt := 167) hx hb dRe_init_150 (by decide) ?_
                refine lv_iand hx hb dRe_init_167 ?_
                refine lv_topi (fun x_33 ex_33 => ?_)
                refine va_iast (D := D) hx hb hK hP hD hS 8 0 rfl rfl (vp_in_nI (by omega) (by omega)) dRe_init_168 (fun H locs hP hD hS => ?_)
                rw [nI_clamp (show i < 2 ^ 31 by omega)] at hP hD
                have hP : va_P D vwCl [(h0, .inr (7, [.ref q_1, .ref q_2, .ref q_3, .ref q_4, .ref q_5, .ref q_6, .ref q_7, .int 0, .ref q_8, .ref q_9, .ref q_10, .int 0])), (q_1, .inl (K 3, 209, .inl (fun _ => 0))), (q_2, .inl (K 0, 209, .inl (fun _ => 0))), (q_3, .inl (K 0, 209, .inl (fun _ => 0))), (q_4, .inl (K 3, 209, .inl (fun _ => 0))), (q_5, .inl (K 0, 209, .inl (fun _ => 0))), (q_6, .inl (K 0, 210, .inl (fun _ => 0))), (q_7, .inl (K 0, 210, .inl (fun _ => 0))), (q_8, .inl (K 0, 81, .inl (upd f2 i x_33))), (q_9, .inl (K 0, 81, .inl g2)), (q_10, .inl (K 0, 16, .inl (fun _ => 0)))] H := hP
                have hD : va_D A [(h0, .inr (7, [.ref q_1, .ref q_2, .ref q_3, .ref q_4, .ref q_5, .ref q_6, .ref q_7, .int 0, .ref q_8, .ref q_9, .ref q_10, .int 0])), (q_1, .inl (K 3, 209, .inl (fun _ => 0))), (q_2, .inl (K 0, 209, .inl (fun _ => 0))), (q_3, .inl (K 0, 209, .inl (fun _ => 0))), (q_4, .inl (K 3, 209, .inl (fun _ => 0))), (q_5, .inl (K 0, 209, .inl (fun _ => 0))), (q_6, .inl (K 0, 210, .inl (fun _ => 0))), (q_7, .inl (K 0, 210, .inl (fun _ => 0))), (q_8, .inl (K 0, 81, .inl (upd f2 i x_33))), (q_9, .inl (K 0, 81, .inl g2)), (q_10, .inl (K 0, 16, .inl (fun _ => 0)))] := hD
                refine lv_aload_n hx hb dRe_init_169 rfl (lv_at hl 4 rfl) ?_
                refine va_get (D := D) (ci := 7) (v := .ref q_9) (C := RRe) (T := TRe) (N := 12) hx hb hts inRe hown hK hP 0 rfl rfl 9 (by decide) (hts _ wv_334) (fun _ h9 => h9) rfl dRe_init_170 ?_
                refine lv_iload_n hx hb dRe_init_173 rfl (lv_at hl 3 rfl) ?_
                refine lv_dup2_11 hx hb dRe_init_174 rfl rfl ?_
                refine va_iald (D := D) hx hb hK hP 9 0 rfl rfl (vp_in_nI (by omega) (by omega)) dRe_init_175 ?_
                refine lv_topi (fun x_34 ex_34 => ?_)
                rw [nI_clamp (show i < 2 ^ 31 by omega)] at ex_34
                refine lv_iload_n hx hb dRe_init_176 rfl (lv_at hl 1 rfl) ?_
                refine lv_if_ne (tgt := 184) hx hb dRe_init_177 (by decide) (fun c_35 => absurd (by decide) c_35) (fun _ => ?_)
                refine lv_iconst (v := 0) hx hb dRe_init_180 (by decide) ?_
                refine lv_goto (tgt := 185) hx hb dRe_init_181 (by decide) ?_
                refine lv_iadd hx hb dRe_init_185 ?_
                refine lv_topi (fun x_36 ex_36 => ?_)
                refine va_iast (D := D) hx hb hK hP hD hS 9 0 rfl rfl (vp_in_nI (by omega) (by omega)) dRe_init_186 (fun H locs hP hD hS => ?_)
                rw [nI_clamp (show i < 2 ^ 31 by omega)] at hP hD
                have hP : va_P D vwCl [(h0, .inr (7, [.ref q_1, .ref q_2, .ref q_3, .ref q_4, .ref q_5, .ref q_6, .ref q_7, .int 0, .ref q_8, .ref q_9, .ref q_10, .int 0])), (q_1, .inl (K 3, 209, .inl (fun _ => 0))), (q_2, .inl (K 0, 209, .inl (fun _ => 0))), (q_3, .inl (K 0, 209, .inl (fun _ => 0))), (q_4, .inl (K 3, 209, .inl (fun _ => 0))), (q_5, .inl (K 0, 209, .inl (fun _ => 0))), (q_6, .inl (K 0, 210, .inl (fun _ => 0))), (q_7, .inl (K 0, 210, .inl (fun _ => 0))), (q_8, .inl (K 0, 81, .inl (upd f2 i x_33))), (q_9, .inl (K 0, 81, .inl (upd g2 i x_36))), (q_10, .inl (K 0, 16, .inl (fun _ => 0)))] H := hP
                have hD : va_D A [(h0, .inr (7, [.ref q_1, .ref q_2, .ref q_3, .ref q_4, .ref q_5, .ref q_6, .ref q_7, .int 0, .ref q_8, .ref q_9, .ref q_10, .int 0])), (q_1, .inl (K 3, 209, .inl (fun _ => 0))), (q_2, .inl (K 0, 209, .inl (fun _ => 0))), (q_3, .inl (K 0, 209, .inl (fun _ => 0))), (q_4, .inl (K 3, 209, .inl (fun _ => 0))), (q_5, .inl (K 0, 209, .inl (fun _ => 0))), (q_6, .inl (K 0, 210, .inl (fun _ => 0))), (q_7, .inl (K 0, 210, .inl (fun _ => 0))), (q_8, .inl (K 0, 81, .inl (upd f2 i x_33))), (q_9, .inl (K 0, 81, .inl (upd g2 i x_36))), (q_10, .inl (K 0, 16, .inl (fun _ => 0)))] := hD
                obtain ⟨x_37, ex_37⟩ : ∃ y : Int32, y = nI j + 1 := ⟨_, rfl⟩
                refine lv_iinc (v := x_37) (lv' := [(2, .int x_37), (4, .int x_18), (3, .int 0), (1, .int (nI i)), (0, .ref h0)]) hx hb dRe_init_187 hl (k := 2) rfl (by rw [ex_37]; rfl) (by decide) rfl (fun ls hl => ?_)
                obtain rfl : x_37 = nI (j + 1) := ex_37.trans (nI_1 j)
                refine lv_goto (tgt := 112) hx hb dRe_init_190 (by decide) ?_
                exact ih2 (j + 1) (by omega) (by omega) (upd f2 i x_33) (upd g2 i x_36) H locs ls (cf_ri1 (x := 0) hinv2 hpt (by rw [ex_33, ex_19]; rfl) (by rw [ex_36, ex_34]; rfl)) hP hD hS (lv_sub hl [0, 3, 4] rfl)
        exact inner 5 0 (by omega) (by omega) (upd f i 65535) g H locs ls (cf_ri0 hinv) hP hD hS (lv_sub hl [0, 1, 2] rfl)
  exact outer 82 0 (by omega) (by omega) (fun _ => 0) (fun _ => 0) H locs ls ⟨fun k h => absurd h (Nat.not_lt_zero k), fun _ _ => rfl⟩ hP hD hS (lv_sub hl [0, 1] rfl)
