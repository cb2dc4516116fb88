/-! what the machine over Int says holds of the small machine: the pieces -/
theorem bm_t {x : Int} (h : bm_rg x) : (Int32.ofInt x).toInt = x := Int32.toInt_ofInt_of_le (by omega) (by omega)
theorem bm_rgt (x : Int32) : bm_rg x.toInt := ⟨by have := x.le_toInt; omega, by have := x.toInt_lt; omega⟩
theorem bm_eq {x y : Int} (hx : bm_rg x) (hy : bm_rg y) : (Int32.ofInt x = Int32.ofInt y) = (x = y) := propext ⟨fun h => by rw [← bm_t hx, ← bm_t hy, h], fun h => by rw [h]⟩
theorem bm_lt {x y : Int} (hx : bm_rg x) (hy : bm_rg y) : (Int32.ofInt x < Int32.ofInt y) = (x < y) := propext (by rw [Int32.lt_iff_toInt_lt, bm_t hx, bm_t hy])
theorem bm_le {x y : Int} (hx : bm_rg x) (hy : bm_rg y) : (Int32.ofInt x ≤ Int32.ofInt y) = (x ≤ y) := propext (by rw [Int32.le_iff_toInt_le, bm_t hx, bm_t hy])
theorem bm_z : (0 : Int32) = Int32.ofInt 0 := by decide
theorem bm_rz : bm_rg 0 := by omega
theorem bm_nat {x : Int} (h : bm_rg x) : (Int32.ofInt x).toNatClampNeg = x.toNat := by show (Int32.ofInt x).toInt.toNat = _; rw [bm_t h]
theorem bm_amin {j : Int} {n : Nat} (hj : bm_rg j) (h0 : 0 ≤ j) (h1 : j < n) : am_in (Int32.ofInt j) n = true := by
  unfold am_in
  rw [bm_nat hj]
  have e1 : ¬ (Int32.ofInt j < 0) := by rw [bm_z, bm_lt hj bm_rz]; omega
  have e2 : Nat.blt j.toNat n = true := Nat.ble_eq_true_of_le (by omega : j.toNat + 1 ≤ n)
  simp [e1, e2]
theorem bm_LNc : ((List.range 88).all fun t => (List.range 80).all fun i => Nat.beq (am_LN (t + 20) i) (bm_L (t + 20) (i : Int)).toNat && decide (0 ≤ bm_L (t + 20) (i : Int)) && decide (bm_L (t + 20) (i : Int) < 20000)) = true := by decide +kernel
theorem bm_LN {t : Nat} {i : Int} (h1 : 19 < t) (h2 : t < 108) (h3 : 0 ≤ i) (h4 : i < 80) : (am_LN t i.toNat : Int) = bm_L t i ∧ bm_L t i < 20000 ∧ 0 ≤ bm_L t i := by
  have h := List.all_eq_true.mp (List.all_eq_true.mp bm_LNc (t - 20) (List.mem_range.mpr (by omega))) i.toNat (List.mem_range.mpr (by omega))
  simp only [Bool.and_eq_true, decide_eq_true_eq] at h
  obtain ⟨⟨h5, h6⟩, h7⟩ := h
  rw [show t - 20 + 20 = t by omega, show ((i.toNat : Nat) : Int) = i by omega] at *
  have := Nat.eq_of_beq_eq_true h5
  omega
theorem bm_akc : ((List.range 88).all fun t => Nat.blt (am_ak (t + 20)) 5) = true := by decide +kernel
theorem bm_ak9 {t : Nat} (h1 : 19 < t) (h2 : t < 108) : Nat.beq (am_ak t) 9 = false := by
  have h := List.all_eq_true.mp bm_akc (t - 20) (List.mem_range.mpr (by omega))
  rw [show t - 20 + 20 = t by omega] at h
  have h' : am_ak t < 5 := Nat.le_of_ble_eq_true h
  cases hb : Nat.beq (am_ak t) 9
  · rfl
  · have := Nat.eq_of_beq_eq_true hb; omega
theorem bm_bl {t k : Nat} (h : Nat.blt t k = true) : t < k := Nat.le_of_ble_eq_true h
theorem bm_bl' {t k : Nat} (h : t < k) : Nat.blt t k = true := Nat.ble_eq_true_of_le h
theorem bm_bf {t k : Nat} (h : t ≠ k) : Nat.beq t k = false := by
  cases hb : Nat.beq t k
  · rfl
  · exact absurd (Nat.eq_of_beq_eq_true hb) h
/-- a place of a state -/
theorem bm_Ig {ι : bm_S} {t : Nat} {i j : Int} (h : ¬ (t = 8 ∧ (j = 4 ∨ j = 6))) (hi : 0 ≤ i) (hj : 0 ≤ j) : ah_I (bm_h ι) t i.toNat j.toNat = Int32.ofInt (ι t i j) := by
  show bm_I ι t i.toNat j.toNat = _
  unfold bm_I
  rw [show ((i.toNat : Nat) : Int) = i by omega, show ((j.toNat : Nat) : Int) = j by omega]
  have : (Nat.beq t 8 && (Nat.beq j.toNat 4 || Nat.beq j.toNat 6)) = false := by
    cases hc : (Nat.beq t 8 && (Nat.beq j.toNat 4 || Nat.beq j.toNat 6))
    · rfl
    · simp only [Bool.and_eq_true, Bool.or_eq_true] at hc
      obtain ⟨a, b⟩ := hc
      refine absurd ⟨Nat.eq_of_beq_eq_true a, ?_⟩ h
      rcases b with b | b
      · have := Nat.eq_of_beq_eq_true b; omega
      · have := Nat.eq_of_beq_eq_true b; omega
  rw [this]
  rfl
theorem bm_sI {ι : bm_S} {t : Nat} {i j x : Int} (h : ¬ (t = 8 ∧ (j = 4 ∨ j = 6))) (hi : 0 ≤ i) (hj : 0 ≤ j) : am_sI (bm_h ι) t i.toNat j.toNat (Int32.ofInt x) = bm_h (up ι t i j x) := by
  have e4 : up ι t i j x 8 0 4 = ι 8 0 4 := by unfold up; rw [if_neg]; intro ⟨a, b, c⟩; exact h ⟨a.symm, Or.inl b.symm⟩
  have e6 : up ι t i j x 8 0 6 = ι 8 0 6 := by unfold up; rw [if_neg]; intro ⟨a, b, c⟩; exact h ⟨a.symm, Or.inr b.symm⟩
  unfold am_sI bm_h
  rw [e4, e6]
  congr 2
  funext t' i' j'
  show am_c (bm_I ι) t i.toNat (upd (bm_I ι t i.toNat) j.toNat (Int32.ofInt x)) t' i' j' = bm_I (up ι t i j x) t' i' j'
  unfold am_c
  by_cases h1 : t' = t ∧ i' = i.toNat
  · rw [if_pos h1]
    obtain ⟨rfl, rfl⟩ := h1
    unfold upd
    by_cases h2 : j' = j.toNat
    · rw [if_pos h2]
      subst h2
      have := bm_Ig (ι := up ι t' i j x) h hi hj
      rw [show ah_I (bm_h (up ι t' i j x)) t' i.toNat j.toNat = bm_I (up ι t' i j x) t' i.toNat j.toNat from rfl] at this
      rw [this]
      unfold up
      rw [if_pos ⟨rfl, rfl, rfl⟩]
    · rw [if_neg h2]
      unfold bm_I up
      rw [if_neg]
      intro ⟨_, b, _⟩
      omega
  · rw [if_neg h1]
    unfold bm_I up
    rw [if_neg]
    intro ⟨a, b, c⟩
    exact h1 ⟨a, by omega⟩
theorem bm_sr_up {ι : bm_S} {t : Nat} {i j x : Int} (hs : bm_sr ι) (h : ¬ (t = 8 ∧ (j = 4 ∨ j = 6))) (hx : bm_rg x) : bm_sr (up ι t i j x) := by
  obtain ⟨h1, h2, h3⟩ := hs
  have e4 : up ι t i j x 8 0 4 = ι 8 0 4 := by unfold up; rw [if_neg]; intro ⟨a, b, c⟩; exact h ⟨a.symm, Or.inl b.symm⟩
  have e6 : up ι t i j x 8 0 6 = ι 8 0 6 := by unfold up; rw [if_neg]; intro ⟨a, b, c⟩; exact h ⟨a.symm, Or.inr b.symm⟩
  refine ⟨fun t' i' j' => ?_, by rw [e4]; exact h2, by rw [e6]; exact h3⟩
  unfold up
  split
  · exact hx
  · exact h1 _ _ _
theorem bm_sR4 {ι : bm_S} {q : Int} : am_sR (bm_h ι) 8 0 4 (some (7, q.toNat)) = bm_h (up ι 8 0 4 q) := by
  have e6 : up ι 8 0 4 q 8 0 6 = ι 8 0 6 := rfl
  have e4 : up ι 8 0 4 q 8 0 4 = q := rfl
  unfold am_sR bm_h
  rw [e4, e6]
  congr 2
  · funext t' i' j'
    show bm_I ι t' i' j' = bm_I (up ι 8 0 4 q) t' i' j'
    unfold bm_I up
    cases hb : (Nat.beq t' 8 && (Nat.beq j' 4 || Nat.beq j' 6))
    · rw [if_neg]
      intro ⟨a, b, c⟩
      have : j' = 4 := by omega
      subst a; subst this
      cases hb
    · rfl
  · funext t' i' j'
    show am_c (am_RB _ _) 8 0 (am_u (am_RB _ _ 8 0) 4 _) t' i' j' = _
    unfold am_c
    by_cases h1 : t' = 8 ∧ i' = 0
    · rw [if_pos h1]
      obtain ⟨rfl, rfl⟩ := h1
      unfold am_u
      by_cases h2 : j' = 4
      · rw [if_pos h2]; subst h2; rfl
      · rw [if_neg h2]; unfold am_RB; rw [bm_bf h2]; rfl
    · rw [if_neg h1]
      have : (Nat.beq t' 8 && Nat.beq i' 0) = false := by
        cases hc : (Nat.beq t' 8 && Nat.beq i' 0)
        · rfl
        · simp only [Bool.and_eq_true] at hc
          exact absurd ⟨Nat.eq_of_beq_eq_true hc.1, Nat.eq_of_beq_eq_true hc.2⟩ h1
      unfold am_RB
      rw [this]
      rfl
theorem bm_sR6 {ι : bm_S} {q : Int} : am_sR (bm_h ι) 8 0 6 (some (7, q.toNat)) = bm_h (up ι 8 0 6 q) := by
  have e6 : up ι 8 0 6 q 8 0 6 = q := rfl
  have e4 : up ι 8 0 6 q 8 0 4 = ι 8 0 4 := rfl
  unfold am_sR bm_h
  rw [e4, e6]
  congr 2
  · funext t' i' j'
    show bm_I ι t' i' j' = bm_I (up ι 8 0 6 q) t' i' j'
    unfold bm_I up
    cases hb : (Nat.beq t' 8 && (Nat.beq j' 4 || Nat.beq j' 6))
    · rw [if_neg]
      intro ⟨a, b, c⟩
      have : j' = 6 := by omega
      subst a; subst this
      cases hb
    · rfl
  · funext t' i' j'
    show am_c (am_RB _ _) 8 0 (am_u (am_RB _ _ 8 0) 6 _) t' i' j' = _
    unfold am_c
    by_cases h1 : t' = 8 ∧ i' = 0
    · rw [if_pos h1]
      obtain ⟨rfl, rfl⟩ := h1
      unfold am_u
      by_cases h2 : j' = 6
      · rw [if_pos h2]; subst h2; rfl
      · rw [if_neg h2]; unfold am_RB; rw [bm_bf h2]; rfl
    · rw [if_neg h1]
      have : (Nat.beq t' 8 && Nat.beq i' 0) = false := by
        cases hc : (Nat.beq t' 8 && Nat.beq i' 0)
        · rfl
        · simp only [Bool.and_eq_true] at hc
          exact absurd ⟨Nat.eq_of_beq_eq_true hc.1, Nat.eq_of_beq_eq_true hc.2⟩ h1
      unfold am_RB
      rw [this]
      rfl
theorem bm_condmap {α β : Type} (f : α → β) (c : Bool) (x y : Option α) : (bif c then x else y).map f = bif c then x.map f else y.map f := by cases c <;> rfl
theorem bm_RFm {t : Nat} {i : Int} {j : Nat} (hi : 0 ≤ i) : am_RBf t i.toNat j = (bm_RF t i j).map (fun q => (q.1, q.2.toNat)) := by
  have e1 : (2 * i).toNat = 2 * i.toNat := by omega
  have e2 : (74 + 2 * i).toNat = 74 + 2 * i.toNat := by omega
  have e3 : (75 + 2 * i).toNat = 75 + 2 * i.toNat := by omega
  unfold am_RBf bm_RF
  simp only [bm_condmap, Option.map_some, Option.map_none, e1, e2, e3, Int.reduceToNat]
theorem bm_condP {α : Type} (P : α → Prop) (c : Bool) (x y : α) (hx : P x) (hy : P y) : P (bif c then x else y) := by cases c <;> assumption
/-- arithmetic -/
theorem bm_shc : ((List.range 32).all fun n => decide ((Int32.ofInt (n : Int) &&& 31).toBitVec.smod 32 = BitVec.ofNat 32 n)) = true := by decide +kernel
theorem bm_sh {y : Int} (h : 0 ≤ y ∧ y < 32) : (Int32.ofInt y &&& 31).toBitVec.smod 32 = BitVec.ofNat 32 y.toNat := by
  have h1 := List.all_eq_true.mp bm_shc y.toNat (List.mem_range.mpr (by omega))
  rw [show ((y.toNat : Nat) : Int) = y by omega] at h1
  exact of_decide_eq_true h1
theorem bm_shl {x y : Int} (h : 0 ≤ y ∧ y < 32) : Int32.ofInt x <<< (Int32.ofInt y &&& 31) = Int32.ofInt (x * bm_p2 y) := by
  refine Int32.toBitVec.inj ?_
  rw [Int32.toBitVec_shiftLeft, bm_sh h, Int32.ofInt_mul, Int32.toBitVec_mul, BitVec.shiftLeft_eq', BitVec.shiftLeft_eq_mul_twoPow]
  congr 1
  refine BitVec.eq_of_toNat_eq ?_
  have hy : y.toNat < 32 := by omega
  have hp : 2 ^ y.toNat < 2 ^ 32 := Nat.pow_lt_pow_right (by decide) hy
  unfold bm_p2
  rw [BitVec.toNat_twoPow, BitVec.toNat_ofNat, Nat.mod_eq_of_lt (by omega : y.toNat < 2 ^ 32), Int32.ofInt_eq_ofNat, Int32.toBitVec_ofNat']
  simp
theorem bm_p2pos (k : Int) : 0 < bm_p2 k := by unfold bm_p2; have := Nat.pow_pos (n := k.toNat) (show 0 < 2 by decide); omega
theorem bm_shr {x y : Int} (hx : bm_rg x) (h : 0 ≤ y ∧ y < 32) : Int32.ofInt x >>> (Int32.ofInt y &&& 31) = Int32.ofInt (x / bm_p2 y) ∧ bm_rg (x / bm_p2 y) := by
  have hr : bm_rg (x / bm_p2 y) := by
    have hp := bm_p2pos y
    refine ⟨?_, ?_⟩
    · refine (Int.le_ediv_iff_mul_le hp).mpr ?_
      have : -2147483648 * bm_p2 y ≤ -2147483648 * 1 := Int.mul_le_mul_of_nonpos_left (by decide) (by omega)
      omega
    · refine Int.ediv_lt_of_lt_mul hp ?_
      have : (2147483648 : Int) * 1 ≤ 2147483648 * bm_p2 y := Int.mul_le_mul_of_nonneg_left (by omega) (by decide)
      omega
  refine ⟨?_, hr⟩
  refine Int32.toInt_inj.mp ?_
  rw [bm_t hr, ← Int32.toInt_toBitVec, Int32.toBitVec_shiftRight, bm_sh h]
  have hy : y.toNat < 32 := by omega
  rw [BitVec.sshiftRight_eq', BitVec.toInt_sshiftRight, BitVec.toNat_ofNat, Nat.mod_eq_of_lt (by omega : y.toNat < 2 ^ 32), Int32.toInt_toBitVec, bm_t hx, Int.shiftRight_eq_div_pow]
  rfl
theorem bm_byt {x : Int} : (Int32.ofInt x).toInt8.toInt32 = Int32.ofInt (bm_byte x) ∧ bm_rg (bm_byte x) := by
  have hr : bm_rg (bm_byte x) := by unfold bm_byte; omega
  refine ⟨?_, hr⟩
  refine Int32.toInt_inj.mp ?_
  rw [bm_t hr, Int8.toInt_toInt32, Int32.toInt_toInt8, Int32.toInt_ofInt]
  unfold bm_byte
  rw [Int.bmod_def, Int.bmod_def]
  simp only [Int32.size]
  omega
theorem bm_mask (k : Nat) (hk : k < 31) (x : Int) : Int32.ofInt x &&& Int32.ofInt ((2 ^ k - 1 : Nat) : Int) = Int32.ofInt (x % ((2 ^ k : Nat) : Int)) := by
  refine Int32.toBitVec.inj (BitVec.eq_of_toNat_eq ?_)
  have hp : 0 < 2 ^ k := Nat.pow_pos (by decide)
  have hp2 : 2 ^ k ≤ 2 ^ 30 := Nat.pow_le_pow_right (by decide) (by omega)
  have hd : (2 ^ k : Nat) ∣ 2 ^ 32 := Nat.pow_dvd_pow 2 (by omega)
  rw [Int32.toBitVec_and, BitVec.toNat_and]
  have e1 : ∀ z : Int, (Int32.ofInt z).toBitVec.toNat = (z % 4294967296).toNat := fun z => by
    show (BitVec.ofInt 32 z).toNat = _
    rw [BitVec.toNat_ofInt]
    rfl
  rw [e1, e1, e1]
  have e2 : ((((2 ^ k - 1 : Nat) : Int)) % 4294967296).toNat = 2 ^ k - 1 := by
    rw [Int.emod_eq_of_lt (by omega) (by omega)]
    omega
  rw [e2, Nat.and_two_pow_sub_one_eq_mod]
  have hm1 := Int.emod_nonneg x (show ((2 ^ k : Nat) : Int) ≠ 0 by omega)
  have hm2 := Int.emod_lt_of_pos x (show 0 < ((2 ^ k : Nat) : Int) by omega)
  rw [Int.emod_eq_of_lt (a := x % ((2 ^ k : Nat) : Int)) hm1 (by omega)]
  have hm3 := Int.emod_nonneg x (show (4294967296 : Int) ≠ 0 by decide)
  have e3 : (((x % 4294967296).toNat % 2 ^ k : Nat) : Int) = x % ((2 ^ k : Nat) : Int) := by
    rw [Int.natCast_emod, Int.toNat_of_nonneg hm3]
    refine Int.emod_emod_of_dvd x ?_
    have : ((2 ^ k : Nat) : Int) ∣ ((2 ^ 32 : Nat) : Int) := Int.natCast_dvd_natCast.mpr hd
    exact this
  omega
theorem bm_band_ok (x y : Int) : Int32.ofInt x &&& Int32.ofInt y = Int32.ofInt (bm_band x y) ∧ bm_rg (bm_band x y) := by
  unfold bm_band
  by_cases h1 : y = 1
  · rw [if_pos h1, h1]; exact ⟨bm_mask 1 (by decide) x, by omega⟩
  · rw [if_neg h1]
    by_cases h2 : y = 3
    · rw [if_pos h2, h2]; exact ⟨bm_mask 2 (by decide) x, by omega⟩
    · rw [if_neg h2]
      by_cases h3 : y = 7
      · rw [if_pos h3, h3]; exact ⟨bm_mask 3 (by decide) x, by omega⟩
      · rw [if_neg h3]
        by_cases h4 : y = 15
        · rw [if_pos h4, h4]; exact ⟨bm_mask 4 (by decide) x, by omega⟩
        · rw [if_neg h4]
          by_cases h5 : y = 31
          · rw [if_pos h5, h5]; exact ⟨bm_mask 5 (by decide) x, by omega⟩
          · rw [if_neg h5]
            by_cases h6 : y = 63
            · rw [if_pos h6, h6]; exact ⟨bm_mask 6 (by decide) x, by omega⟩
            · rw [if_neg h6]
              by_cases h7 : y = 255
              · rw [if_pos h7, h7]; exact ⟨bm_mask 8 (by decide) x, by omega⟩
              · rw [if_neg h7]
                by_cases h8 : y = 1023
                · rw [if_pos h8, h8]; exact ⟨bm_mask 10 (by decide) x, by omega⟩
                · rw [if_neg h8]
                  by_cases h9 : y = 65535
                  · rw [if_pos h9, h9]; exact ⟨bm_mask 16 (by decide) x, by omega⟩
                  · rw [if_neg h9]; exact ⟨(Int32.ofInt_toInt _).symm, bm_rgt _⟩
