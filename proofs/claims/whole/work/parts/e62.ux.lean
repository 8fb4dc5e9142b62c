def tbq (x : Int64) (j : Nat) : Bool := x.toBitVec.getLsbD j
theorem tb_and {x y : Int64} {j : Nat} : tbq (x &&& y) j = (tbq x j && tbq y j) := by unfold tbq; rw [Int64.toBitVec_and, BitVec.getLsbD_and]
theorem tb_xor {x y : Int64} {j : Nat} : tbq (x ^^^ y) j = (tbq x j ^^ tbq y j) := by unfold tbq; rw [Int64.toBitVec_xor, BitVec.getLsbD_xor]
theorem tb_or {x y : Int64} {j : Nat} : tbq (x ||| y) j = (tbq x j || tbq y j) := by unfold tbq; rw [Int64.toBitVec_or, BitVec.getLsbD_or]
theorem tb_e {x y : Int64} (h : ∀ j : Nat, j < 64 → tbq x j = tbq y j) : x = y := Int64.toBitVec_inj.mp (BitVec.eq_of_getLsbD_eq (fun j hj => h j hj))
theorem tb_0 {j : Nat} : tbq 0 j = false := by unfold tbq; exact BitVec.getLsbD_zero
theorem tb_m : ∀ j : Nat, j < 64 → tbq (-1) j = true := by decide +kernel
theorem tb_s : ∀ s : Nat, s < 64 → ∀ j : Nat, j < 64 → tbq ((1 : Int64) <<< ((Int32.ofNat s).toInt64 &&& 63)) j = decide (j = s) := by decide +kernel
theorem tb_k : ∀ s : Nat, s < 64 → ∀ j : Nat, j < 64 → tbq ((1 : Int64) <<< ((Int32.ofNat s).toInt64 &&& 63) - 1) j = decide (j < s) := by decide +kernel
theorem tb_p : ∀ k : Nat, k < 6 → ∀ j : Nat, j < 64 → tbq (cf_fpats k) j = j.testBit k := by decide +kernel
theorem tb_w : ∀ k : Nat, k < 2 → ∀ w : Nat, w < 4 → ∀ j : Nat, j < 64 → tbq (-(((Int32.ofNat w >>> ((Int32.ofNat k) &&& 31)) &&& 1).toInt64)) j = (64 * w + j).testBit (k + 6) := by decide +kernel
theorem tb_lo : ∀ k : Nat, k < 6 → ∀ w : Nat, w < 4 → ∀ j : Nat, j < 64 → j.testBit k = (64 * w + j).testBit k := by decide +kernel
def od (x : Int32) : Bool := decide (x.toInt % 2 = 1)
theorem tb_n {x : Int32} {j : Nat} (h0 : 0 ≤ x.toInt) (hj : j < 64) : tbq (-((x &&& 1).toInt64)) j = od x := by
  have e := i_a1 h0
  unfold od
  by_cases c : x.toInt % 2 = 1
  · rw [show x &&& 1 = 1 from Int32.toInt_inj.mp (by rw [e, c]; rfl), decide_eq_true c]
    exact tb_m j hj
  · rw [show x &&& 1 = 0 from Int32.toInt_inj.mp (by rw [e, show (0 : Int32).toInt = 0 from rfl]; omega), decide_eq_false c]
    exact tb_0
def lvq (V : Nat → Nat → Bool) (x : Int32) (i : Nat) : Bool := V (x.toInt.toNat / 2) i ^^ od x
def VSq (b n : Nat) (gr : cf_O) (V : Nat → Nat → Bool) : Prop := (∀ i : Nat, V 0 i = false) ∧ (∀ k i : Nat, 1 ≤ k → k < b → V k i = i.testBit (k - 1)) ∧ ∀ g i : Nat, g < n → V (b + g) i = (lvq V (gr.2.1 4 (b + g)) i && lvq V (gr.2.1 5 (b + g)) i)
noncomputable def nVf (b : Nat) (lo hi : Nat → Int32) : Nat → Nat → Nat → Bool
  | 0, _, _ => false
  | f + 1, k, i => if k = 0 then false else if k < b then i.testBit (k - 1) else lvq (nVf b lo hi f) (lo k) i && lvq (nVf b lo hi f) (hi k) i
theorem nVf_e {b n : Nat} {gr : cf_O} (G : GW b n gr) : ∀ (f h k i : Nat), k < f → k < h → k < b + n → nVf b (gr.2.1 4) (gr.2.1 5) f k i = nVf b (gr.2.1 4) (gr.2.1 5) h k i
  | 0, h, k, i, h1, h2, hk => by omega
  | f + 1, 0, k, i, h1, h2, hk => by omega
  | f + 1, h + 1, k, i, h1, h2, hk => by
    show (if k = 0 then false else if k < b then i.testBit (k - 1) else lvq (nVf b (gr.2.1 4) (gr.2.1 5) f) (gr.2.1 4 k) i && lvq (nVf b (gr.2.1 4) (gr.2.1 5) f) (gr.2.1 5 k) i) = (if k = 0 then false else if k < b then i.testBit (k - 1) else lvq (nVf b (gr.2.1 4) (gr.2.1 5) h) (gr.2.1 4 k) i && lvq (nVf b (gr.2.1 4) (gr.2.1 5) h) (gr.2.1 5 k) i)
    by_cases c : k = 0
    · rw [if_pos c, if_pos c]
    · rw [if_neg c, if_neg c]
      by_cases d : k < b
      · rw [if_pos d, if_pos d]
      · rw [if_neg d, if_neg d]
        obtain ⟨g, hg⟩ : ∃ g : Nat, k = b + g := ⟨k - b, by omega⟩
        have gg := G.2.1 g (by omega)
        rw [← hg] at gg
        unfold lvq
        rw [nVf_e G f h _ i (by omega) (by omega) (by omega), nVf_e G f h ((gr.2.1 5 k).toInt.toNat / 2) i (by omega) (by omega) (by omega)]
theorem VS_ex {b n : Nat} {gr : cf_O} (G : GW b n gr) : ∃ V : Nat → Nat → Bool, VSq b n gr V := by
  have G0 := G.1
  refine ⟨fun k i => nVf b (gr.2.1 4) (gr.2.1 5) 210 k i, fun i => rfl, fun k i k1 k2 => ?_, fun g i hg => ?_⟩
  · show (if k = 0 then false else if k < b then i.testBit (k - 1) else _) = _
    rw [if_neg (by omega), if_pos k2]
  · have gg := G.2.1 g hg
    show (if b + g = 0 then false else if b + g < b then i.testBit (b + g - 1) else lvq (nVf b (gr.2.1 4) (gr.2.1 5) 209) (gr.2.1 4 (b + g)) i && lvq (nVf b (gr.2.1 4) (gr.2.1 5) 209) (gr.2.1 5 (b + g)) i) = _
    rw [if_neg (by omega), if_neg (by omega)]
    unfold lvq
    rw [nVf_e G 209 210 _ i (by omega) (by omega) (by omega), nVf_e G 209 210 ((gr.2.1 5 (b + g)).toInt.toNat / 2) i (by omega) (by omega) (by omega)]
theorem VS_p {b n : Nat} {gr : cf_O} {V : Nat → Nat → Bool} (G : GW b n gr) (S : VSq b n gr V) : ∀ (f k i j : Nat), k < f → k < b + n → (∀ t : Nat, t + 1 < b → i.testBit t = j.testBit t) → V k i = V k j
  | 0, k, i, j, h, hk, e => by omega
  | f + 1, k, i, j, h, hk, e => by
    obtain ⟨S1, S2, S3⟩ := S
    by_cases c : k = 0
    · rw [c, S1, S1]
    · by_cases d : k < b
      · rw [S2 k i (by omega) d, S2 k j (by omega) d]; exact e _ (by omega)
      · obtain ⟨g, hg⟩ : ∃ g : Nat, k = b + g := ⟨k - b, by omega⟩
        have gg := G.2.1 g (by omega)
        rw [hg, S3 g i (by omega), S3 g j (by omega)]
        unfold lvq
        rw [VS_p G ⟨S1, S2, S3⟩ f ((gr.2.1 4 (b + g)).toInt.toNat / 2) i j (by omega) (by omega) e, VS_p G ⟨S1, S2, S3⟩ f ((gr.2.1 5 (b + g)).toInt.toNat / 2) i j (by omega) (by omega) e]
theorem VS_m {b n : Nat} {gr : cf_O} {V : Nat → Nat → Bool} (G : GW b n gr) (S : VSq b n gr V) {k i : Nat} (hk : k < b + n) : V k i = V k (i % 2 ^ (b - 1)) := by
  refine VS_p G S (k + 1) k _ _ (by omega) hk (fun t ht => ?_)
  rw [Nat.testBit_mod_two_pow, decide_eq_true (show t < b - 1 by omega), Bool.true_and]
