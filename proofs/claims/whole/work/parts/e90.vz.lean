def dgN (p k : Nat) : Nat := p / 3 ^ k % 3
def ioN (p j s : Nat) : Bool := (List.range s).all (fun k => dgN p k == 0 || (dgN p k == 1) == j.testBit k)
def liN (p s : Nat) : Nat := (List.range s).foldl (fun a k => if dgN p k = 0 then a else a + 1) 0
theorem dg_t : ∀ p : Nat, p < 81 → ∀ k : Nat, k < 5 → fM_digit (Int32.ofNat p) (Int32.ofNat k) = some (Int32.ofNat (dgN p k)) := by decide +kernel
theorem io_t : ∀ p : Nat, p < 81 → ∀ j : Nat, j < 16 → ∀ s : Nat, s < 5 → fM_isOne (Int32.ofNat p) (Int32.ofNat j) (Int32.ofNat s) = some (bI (ioN p j s)) := by decide +kernel
theorem li_t : ∀ p : Nat, p < 81 → ∀ s : Nat, s < 5 → fM_literalsOf (Int32.ofNat p) (Int32.ofNat s) = some (Int32.ofNat (liN p s)) := by decide +kernel
theorem io_4 : ∀ s : Nat, s < 5 → ∀ p : Nat, p < 3 ^ s → ∀ j : Nat, j < 16 → ioN p j 4 = ioN p j s := by decide +kernel
theorem li_4 : ∀ s : Nat, s < 5 → ∀ p : Nat, p < 3 ^ s → liN p 4 = liN p s := by decide +kernel
theorem rm_b : (List.range 5).all (fun s => (List.range (3 ^ s)).all (fun p => (List.range s).all (fun k => dgN p k == 0 || (decide (dgN p k * 3 ^ k ≤ p) && decide (liN (p - dgN p k * 3 ^ k) s < liN p s) && (List.range 16).all (fun j => !ioN p j s || ioN (p - dgN p k * 3 ^ k) j s))))) = true := by decide +kernel
theorem rm_t {s p k : Nat} (hs : s < 5) (hp : p < 3 ^ s) (hk : k < s) (hd : ¬ dgN p k = 0) : dgN p k * 3 ^ k ≤ p ∧ liN (p - dgN p k * 3 ^ k) s < liN p s ∧ ∀ j : Nat, j < 16 → ioN p j s = true → ioN (p - dgN p k * 3 ^ k) j s = true := by
  have z := List.all_eq_true.mp (List.all_eq_true.mp (List.all_eq_true.mp rm_b s (List.mem_range.mpr hs)) p (List.mem_range.mpr hp)) k (List.mem_range.mpr hk)
  have z := (Bool.or_eq_true _ _).mp z
  rcases z with z | z
  · exact absurd (beq_iff_eq.mp z) hd
  · obtain ⟨z1, z3⟩ := (Bool.and_eq_true _ _).mp z
    obtain ⟨z1, z2⟩ := (Bool.and_eq_true _ _).mp z1
    refine ⟨of_decide_eq_true z1, of_decide_eq_true z2, fun j hj h => ?_⟩
    have y := List.all_eq_true.mp z3 j (List.mem_range.mpr hj)
    rw [h] at y
    exact y
theorem fu_t : ∀ s : Nat, s < 5 → ∀ j : Nat, j < 2 ^ s → (List.range (3 ^ s)).any (fun p => ioN p j s && (List.range (2 ^ s)).all (fun i => !ioN p i s || i == j)) = true := by decide +kernel
theorem li_b : ∀ p : Nat, p < 81 → ∀ s : Nat, s < 5 → liN p s ≤ 4 := by decide +kernel
def wiN (p s : Nat) (T : Nat → Bool) : Bool := (List.range (2 ^ s)).all (fun j => !ioN p j s || T j)
def prN (p s : Nat) (T : Nat → Bool) : Bool := wiN p s T && (List.range s).all (fun k => dgN p k == 0 || !wiN (p - dgN p k * 3 ^ k) s T)
theorem on_i {v : Int32} {n : Nat} (h : v.toInt = (n : Int)) : v = Int32.ofNat n := by
  apply Int32.toInt_inj.mp
  have : v.toInt ≤ 2147483647 := by have := Int32.toInt_le v; exact this
  rw [h, Int32.toInt_ofNat_of_lt (by omega)]
theorem s1_t : ∀ s : Nat, s < 5 → ((1 : Int32) <<< (Int32.ofNat s &&& 31)).toInt = ((2 ^ s : Nat) : Int) := by decide +kernel
theorem pw4 {s : Nat} (hs : s < 5) : 2 ^ s ≤ 16 ∧ 3 ^ s ≤ 81 := ⟨Nat.le_trans (Nat.pow_le_pow_right (by decide) (show s ≤ 4 by omega)) (by decide), Nat.le_trans (Nat.pow_le_pow_right (by decide) (show s ≤ 4 by omega)) (by decide)⟩
theorem rg_s (n c : Nat) : List.range' n (c + 1) = n :: List.range' (n + 1) c := rfl
theorem tbit {t : Int32} {j : Nat} (t0 : 0 ≤ t.toInt) (hj : j < 30) : (t >>> (Int32.ofNat j &&& 31) &&& 1 = 1 ↔ bt t j = true) ∧ (t >>> (Int32.ofNat j &&& 31) &&& 1 = 0 ↔ bt t j = false) := by
  have ej : (Int32.ofNat j).toInt = (j : Int) := Int32.toInt_ofNat_of_lt (by omega)
  have z := bt_t (x := t) (v := Int32.ofNat j) rfl rfl t0 (by omega) (by omega)
  rw [ej] at z
  have z : ((t >>> (Int32.ofNat j &&& 31) &&& 1).toInt = 0 ∧ bt t j = false) ∨ (¬ (t >>> (Int32.ofNat j &&& 31) &&& 1).toInt = 0 ∧ bt t j = true) := z
  have sh0 : 0 ≤ (t >>> (Int32.ofNat j &&& 31)).toInt := by rw [i_shr t0 (by omega) (by omega)]; exact Int.ediv_nonneg t0 (Int.le_of_lt (Int.pow_pos (by decide)))
  have a1 := i_a1 sh0
  rcases z with ⟨z1, z2⟩ | ⟨z1, z2⟩
  · rw [z2]
    refine ⟨⟨fun q => ?_, fun q => by cases q⟩, ⟨fun _ => rfl, fun _ => Int32.toInt_inj.mp (by rw [z1]; rfl)⟩⟩
    rw [q] at z1; cases z1
  · rw [z2]
    refine ⟨⟨fun _ => rfl, fun _ => Int32.toInt_inj.mp ?_⟩, ⟨fun q => ?_, fun q => by cases q⟩⟩
    · show _ = (1 : Int)
      omega
    · rw [q] at z1; exact absurd rfl z1
theorem wi_go {p s : Nat} {t : Int32} (hp : p < 81) (hs : s < 5) (t0 : 0 ≤ t.toInt) : ∀ (f k : Nat) (w : Bool) (v4 r : Int32), v4.toInt = (k : Int) → k ≤ 2 ^ s → gM_isWithin f 0 (Int32.ofNat p) t (Int32.ofNat s) (bI w) v4 = some r → r = bI (w && (List.range' k (2 ^ s - k)).all (fun j => !ioN p j s || bt t j))
  | 0, k, w, v4, r, h4, hk, h => by cases h
  | f + 1, k, w, v4, r, h4, hk, h => by
    have h : fM_isWithin_5 (gM_isWithin f) (Int32.ofNat p) t (Int32.ofNat s) (bI w) v4 = some r := h
    unfold fM_isWithin_5 at h
    rw [opk] at h
    have e1 := s1_t s hs
    have b4 := pw4 hs
    rcases ifc h with ⟨a, h⟩ | ⟨a, h⟩
    · have a := Int32.le_iff_toInt_le.mp a
      rw [show 2 ^ s - k = 0 by omega]
      show r = bI (w && true)
      rw [Bool.and_true]
      exact b01_sp h
    · have a : ¬ ((1 : Int32) <<< (Int32.ofNat s &&& 31)).toInt ≤ v4.toInt := fun q => a (Int32.le_iff_toInt_le.mpr q)
      have p4 := pW (v := v4) (by omega) (by omega)
      have e4 := on_i h4
      rw [show 2 ^ s - k = (2 ^ s - (k + 1)) + 1 by omega, rg_s, List.all_cons]
      have nx : ∀ x : Bool, fM_isWithin_42 (gM_isWithin f) (Int32.ofNat p) t (Int32.ofNat s) v4 (bI x) = some r → x = (w && (!ioN p k s || bt t k)) → r = bI (w && ((!ioN p k s || bt t k) && (List.range' (k + 1) (2 ^ s - (k + 1))).all (fun j => !ioN p j s || bt t j))) := fun x q ex => by
        have z := wi_go hp hs t0 f (k + 1) x (v4 + 1) r (by omega) (by omega) q
        rw [z, ex, Bool.and_assoc]
      rcases ifc h with ⟨b, h⟩ | ⟨b, h⟩
      · exact nx false h (by rw [bI_0.mp b]; rfl)
      · have wt : w = true := by
          cases w with
          | true => rfl
          | false => exact absurd rfl b
        obtain ⟨q, hq, h⟩ := bd h
        rw [e4, io_t p hp k (by omega) s hs] at hq
        have eq := Option.some.inj hq
        rcases ifc h with ⟨c, h⟩ | ⟨c, h⟩
        · rw [← eq] at c
          exact nx true h (by rw [wt, bI_0.mp c]; rfl)
        · have io : ioN p k s = true := by
            cases hio : ioN p k s with
            | true => rfl
            | false => rw [hio] at eq; exact absurd eq.symm c
          rw [opk, opk, e4] at h
          have tb := tbit (j := k) t0 (by omega)
          rcases ifc h with ⟨d, h⟩ | ⟨d, h⟩
          · rw [← e4] at h
            exact nx true h (by rw [wt, io, tb.1.mp d]; rfl)
          · rw [← e4] at h
            have : bt t k = false := by
              cases hbt : bt t k with
              | false => rfl
              | true => exact absurd (tb.1.mpr hbt) d
            exact nx false h (by rw [wt, io, this]; rfl)
theorem rg_0 (n : Nat) : List.range' 0 n = List.range n := (List.range_eq_range').symm
theorem wi_sp {p s : Nat} {t r : Int32} (hp : p < 81) (hs : s < 5) (t0 : 0 ≤ t.toInt) (h : fM_isWithin (Int32.ofNat p) t (Int32.ofNat s) = some r) : r = bI (wiN p s (bt t)) := by
  have z := wi_go hp hs t0 cfFU 0 true 0 r rfl (Nat.zero_le _) h
  rw [z, Nat.sub_zero, rg_0]; rfl
theorem pw_t : ∀ k : Nat, k < 5 → (Int32.ofNat (3 ^ k)).toInt = ((3 ^ k : Nat) : Int) ∧ 3 * Int32.ofNat (3 ^ k) = Int32.ofNat (3 ^ (k + 1)) := by decide +kernel
theorem sb_t : ∀ p : Nat, p < 81 → ∀ k : Nat, k < 4 → Int32.ofNat p - Int32.ofNat (dgN p k) * Int32.ofNat (3 ^ k) = Int32.ofNat (p - dgN p k * 3 ^ k) := by decide +kernel
theorem pr_go {p s : Nat} {t : Int32} (hp : p < 81) (hs : s < 5) (t0 : 0 ≤ t.toInt) : ∀ (f k : Nat) (w : Bool) (v5 r : Int32), v5.toInt = (k : Int) → k ≤ s → gM_isPrime f 0 (Int32.ofNat p) t (Int32.ofNat s) (bI w) (Int32.ofNat (3 ^ k)) v5 = some r → r = bI (w && (List.range' k (s - k)).all (fun k => dgN p k == 0 || !wiN (p - dgN p k * 3 ^ k) s (bt t)))
  | 0, k, w, v5, r, h5, hk, h => by cases h
  | f + 1, k, w, v5, r, h5, hk, h => by
    have h : fM_isPrime_13 (gM_isPrime f) (Int32.ofNat p) t (Int32.ofNat s) (bI w) (Int32.ofNat (3 ^ k)) v5 = some r := h
    unfold fM_isPrime_13 at h
    have es : (Int32.ofNat s).toInt = (s : Int) := Int32.toInt_ofNat_of_lt (by omega)
    rcases ifc h with ⟨a, h⟩ | ⟨a, h⟩
    · have a := Int32.le_iff_toInt_le.mp a
      rw [show s - k = 0 by omega]
      show r = bI (w && true)
      rw [Bool.and_true]
      exact b01_sp h
    · have a : ¬ (Int32.ofNat s).toInt ≤ v5.toInt := fun q => a (Int32.le_iff_toInt_le.mpr q)
      have p5 := pW (v := v5) (by omega) (by omega)
      have e5 := on_i h5
      obtain ⟨d, hd, h⟩ := bd h
      rw [e5, dg_t p hp k (by omega)] at hd
      have ed := (Option.some.inj hd).symm
      rw [show s - k = (s - (k + 1)) + 1 by omega, rg_s, List.all_cons]
      have nx : ∀ x : Bool, fM_isPrime_56 (gM_isPrime f) (Int32.ofNat p) t (Int32.ofNat s) (Int32.ofNat (3 ^ k)) v5 (bI x) = some r → x = (w && (dgN p k == 0 || !wiN (p - dgN p k * 3 ^ k) s (bt t))) → r = bI (w && ((dgN p k == 0 || !wiN (p - dgN p k * 3 ^ k) s (bt t)) && (List.range' (k + 1) (s - (k + 1))).all (fun k => dgN p k == 0 || !wiN (p - dgN p k * 3 ^ k) s (bt t)))) := fun x q ex => by
        unfold fM_isPrime_56 at q
        rw [opk, opk, (pw_t k (by omega)).2] at q
        have z := pr_go hp hs t0 f (k + 1) x (v5 + 1) r (by omega) (by omega) q
        rw [z, ex, Bool.and_assoc]
      rcases ifc h with ⟨b, h⟩ | ⟨b, h⟩
      · exact nx false h (by rw [bI_0.mp b]; rfl)
      · have wt : w = true := by
          cases w with
          | true => rfl
          | false => exact absurd rfl b
        have d3 : dgN p k < 3 := Nat.mod_lt _ (by decide)
        have edi : d.toInt = (dgN p k : Int) := by rw [ed]; exact Int32.toInt_ofNat_of_lt (by omega)
        rcases ifc h with ⟨c, h⟩ | ⟨c, h⟩
        · rw [c] at edi
          have z : dgN p k = 0 := by
            have : (0 : Int32).toInt = 0 := rfl
            omega
          exact nx true h (by rw [wt, z]; rfl)
        · have z : ¬ dgN p k = 0 := fun z => c (Int32.toInt_inj.mp (by rw [edi, z]; rfl))
          rw [opk, opk, ed, sb_t p hp k (by omega)] at h
          obtain ⟨q, hq, h⟩ := bd h
          have eq := wi_sp (Nat.lt_of_le_of_lt (Nat.sub_le _ _) hp) hs t0 hq
          have zb : (dgN p k == 0) = false := by
            cases hb : (dgN p k == 0) with
            | false => rfl
            | true => exact absurd (beq_iff_eq.mp hb) z
          rcases ifc h with ⟨y, h⟩ | ⟨y, h⟩
          · rw [eq] at y
            exact nx true h (by rw [wt, zb, bI_0.mp y]; rfl)
          · have : wiN (p - dgN p k * 3 ^ k) s (bt t) = true := by
              cases hw : wiN (p - dgN p k * 3 ^ k) s (bt t) with
              | true => rfl
              | false => rw [hw] at eq; exact absurd eq y
            exact nx false h (by rw [wt, zb, this]; rfl)
theorem pr_sp {p s : Nat} {t r : Int32} (hp : p < 81) (hs : s < 5) (t0 : 0 ≤ t.toInt) (h : fM_isPrime (Int32.ofNat p) t (Int32.ofNat s) = some r) : r = bI (prN p s (bt t)) := by
  unfold fM_isPrime fM_isPrime_0 at h
  obtain ⟨q, hq, h⟩ := bd h
  rw [wi_sp hp hs t0 hq] at h
  have z := pr_go hp hs t0 cfFU 0 _ 0 r rfl (Nat.zero_le _) h
  rw [z, Nat.sub_zero, rg_0]; rfl
