/-! words for the proofs over Int -/
theorem bif_i {c : Prop} [Decidable c] {A B : Prop} (h1 : c → A) (h2 : ¬ c → B) : if c then A else B := by
  by_cases h : c
  · rw [if_pos h]; exact h1 h
  · rw [if_neg h]; exact h2 h
theorem bif_t {c : Prop} [Decidable c] {A B : Prop} (h : c) (h1 : A) : if c then A else B := by rw [if_pos h]; exact h1
theorem bif_f {c : Prop} [Decidable c] {A B : Prop} (h : ¬ c) (h1 : B) : if c then A else B := by rw [if_neg h]; exact h1
theorem up_s {ι : bm_S} {t : Nat} {i j x : Int} : up ι t i j x t i j = x := by unfold up; rw [if_pos ⟨rfl, rfl, rfl⟩]
theorem up_k {ι : bm_S} {t t' : Nat} {i j x i' j' : Int} (h : t' ≠ t) : up ι t i j x t' i' j' = ι t' i' j' := by unfold up; rw [if_neg (fun q => h q.1)]
theorem up_j {ι : bm_S} {t t' : Nat} {i j x i' j' : Int} (h : j' ≠ j) : up ι t i j x t' i' j' = ι t' i' j' := by unfold up; rw [if_neg (fun q => h q.2.1)]
theorem up_i {ι : bm_S} {t t' : Nat} {i j x i' j' : Int} (h : i' ≠ i) : up ι t i j x t' i' j' = ι t' i' j' := by unfold up; rw [if_neg (fun q => h q.2.2)]
theorem up_at {ι : bm_S} {t : Nat} {i j x j' : Int} : up ι t i j x t i j' = if j' = j then x else ι t i j' := by
  by_cases h : j' = j
  · rw [if_pos h, h, up_s]
  · rw [if_neg h, up_j h]
def fs (f : Int → Int) (k v : Int) : Int → Int := fun j => if j = k then v else f j
theorem fs_s {f : Int → Int} {k v : Int} : fs f k v k = v := by unfold fs; rw [if_pos rfl]
theorem fs_n {f : Int → Int} {k v j : Int} (h : j ≠ k) : fs f k v j = f j := by unfold fs; rw [if_neg h]
theorem by_by (x : Int) : bm_byte (bm_byte x) = bm_byte x := by unfold bm_byte; omega
theorem by_id {x : Int} (h : -128 ≤ x ∧ x < 128) : bm_byte x = x := by unfold bm_byte; omega
theorem by_rg (x : Int) : -128 ≤ bm_byte x ∧ bm_byte x < 128 := by unfold bm_byte; omega
theorem by_mod (x : Int) : bm_byte x % 256 = x % 256 := by unfold bm_byte; omega
theorem by_of_mod {x y : Int} (h : x % 256 = y % 256) : bm_byte x = bm_byte y := by unfold bm_byte; omega
theorem by_m (x : Int) : bm_byte (x % 256) = bm_byte x := by unfold bm_byte; omega
theorem us_0 {x : Int} (h : bm_rg x) : bm_ushr x 0 = x := by
  unfold bm_ushr
  have : ((Int32.ofInt 0).toUInt32 &&& Int32.toUInt32 31) = 0 := by decide
  rw [this]
  have e : (Int32.ofInt x).toUInt32 >>> 0 = (Int32.ofInt x).toUInt32 := by simp
  rw [e, Int32.toInt32_toUInt32, bm_t h]
theorem p2_0 : bm_p2 0 = 1 := rfl
theorem p2_s {k : Int} (h : 0 ≤ k) : bm_p2 (k + 1) = 2 * bm_p2 k := by
  unfold bm_p2
  rw [show (k + 1).toNat = k.toNat + 1 by omega, Nat.pow_succ]
  omega
theorem p2_mono {a b : Int} (h : a ≤ b) : bm_p2 a ≤ bm_p2 b := by
  unfold bm_p2
  have := Nat.pow_le_pow_right (n := 2) (by decide) (show a.toNat ≤ b.toNat by omega)
  omega
theorem p2_lt {k : Int} (n : Nat) (h : k ≤ n) : bm_p2 k ≤ ((2 ^ n : Nat) : Int) := by
  unfold bm_p2
  have := Nat.pow_le_pow_right (n := 2) (by decide) (show k.toNat ≤ n by omega)
  omega
theorem p2_le {k : Int} (n : Int) (h : k ≤ n) (v : Int) (hv : bm_p2 n = v) : 1 ≤ bm_p2 k ∧ bm_p2 k ≤ v := by
  have h1 := p2_mono h
  have h2 := bm_p2pos k
  omega
/-- a row of bytes that grows: size, bits, contents -/
def By (ι : bm_S) (n s b : Int) (f : Int → Int) : Prop := ι 2 n 1 = s ∧ ι 2 n 2 = b ∧ ∀ k, 0 ≤ k → k < s → ι 20 n k = f k
/-- nothing but the row n has changed -/
def FrB (n : Int) (ι ι' : bm_S) : Prop := ∀ t i j, ¬ ((t = 2 ∨ t = 20) ∧ i = n) → ι' t i j = ι t i j
theorem FrB.refl (n : Int) (ι : bm_S) : FrB n ι ι := fun _ _ _ _ => rfl
theorem FrB.trans {n : Int} {ι ι1 ι2 : bm_S} (h1 : FrB n ι ι1) (h2 : FrB n ι1 ι2) : FrB n ι ι2 := fun t i j h => (h2 t i j h).trans (h1 t i j h)
theorem FrB.u {n : Int} {ι ι1 : bm_S} {t : Nat} {j x : Int} (h : t = 2 ∨ t = 20) (h1 : FrB n ι ι1) : FrB n ι (up ι1 t n j x) := fun t' i' j' h' => by
  rw [← h1 t' i' j' h']
  unfold up
  rw [if_neg]
  intro ⟨a, _, c⟩
  exact h' ⟨a ▸ h, c⟩
theorem L_20 {n : Int} (h : n = 0 ∨ n = 1) : 2400 ≤ bm_L 20 n ∧ bm_L 20 n ≤ 4096 ∧ (n = 0 → bm_L 20 n = 2400) ∧ (n = 1 → bm_L 20 n = 4096) := by
  rcases h with rfl | rfl
  · exact ⟨by decide, by decide, fun _ => rfl, fun h => by omega⟩
  · exact ⟨by decide, by decide, fun h => by omega, fun _ => rfl⟩
section BytesSpecs
variable {sc : bm_Sc} {ι : bm_S} {n : Int} {H : Nat × Int → bm_S → Prop}
theorem s_at {K : Int → bm_S → Prop} {i : Int} (hn : n = 0 ∨ n = 1) (h1 : ι 2 n 1 ≤ bm_L 20 n) (h : K (if i < 0 ∨ ι 2 n 1 ≤ i then 0 else ι 20 n i % 256) ι) : bC sc 15 [br 2 n, bi i] ι (bk1 K H) := by
  refine e_B_at_0 (bif_i (fun h1 => ?_) (fun h1 => (bif_i (fun h2 => ⟨by omega, ?_⟩) (fun h2 => ?_))))
  · rw [if_pos (by omega)] at h; exact h
  · rw [if_neg (by omega)] at h; exact h
  · rw [if_pos (by omega)] at h; exact h
theorem s_cut {K : bm_S → Prop} {i s b : Int} {f : Int → Int} (hn : n = 0 ∨ n = 1) (hB : By ι n s b f) (hs : 0 ≤ s ∧ s ≤ bm_L 20 n) (h : ∀ ι', By ι' n (min (max i 0) s) (8 * min (max i 0) s) f → FrB n ι ι' → K ι') : bC sc 16 [br 2 n, bi i] ι (bk0 K H) := by
  obtain ⟨e1, e2, e3⟩ := hB
  have hL := L_20 hn
  refine e_B_cut_0 ?_
  rw [up_s, e1]
  refine ⟨by omega, h _ ⟨?_, ?_, fun k h1 h2 => ?_⟩ (FrB.u (Or.inl rfl) (FrB.u (Or.inl rfl) (FrB.refl _ _)))⟩
  · simp (disch := omega) only [up_s, up_k, up_j, up_i]
  · simp (disch := omega) only [up_s, up_k, up_j, up_i]
  · simp (disch := omega) only [up_s, up_k, up_j, up_i]
    exact e3 k h1 (by omega)
theorem s_add {K : bm_S → Prop} {x s b : Int} {f : Int → Int} (hn : n = 0 ∨ n = 1) (hB : By ι n s b f) (hs : 0 ≤ s ∧ s < bm_L 20 n) (h : ∀ ι', By ι' n (s + 1) (8 * (s + 1)) (fs f s (bm_byte x)) → FrB n ι ι' → K ι') : bC sc 17 [br 2 n, bi x] ι (bk0 K H) := by
  obtain ⟨e1, e2, e3⟩ := hB
  have hL := L_20 hn
  refine e_B_add_0 (bif_f (by omega) ?_)
  rw [up_s, e1, by_by]
  refine ⟨by omega, by omega, by omega, h _ ⟨?_, ?_, fun k h1 h2 => ?_⟩ (FrB.u (Or.inl rfl) (FrB.u (Or.inr rfl) (FrB.u (Or.inl rfl) (FrB.refl _ _))))⟩
  · simp (disch := omega) only [up_s, up_k, up_j, up_i]
  · simp (disch := omega) only [up_s, up_k, up_j, up_i]
  · rw [up_k (by decide), up_at, up_k (by decide)]
    by_cases hk : k = s
    · rw [if_pos hk, hk, fs_s]
    · rw [if_neg hk, fs_n hk]; exact e3 k h1 (by omega)
theorem s_fillByte {K : bm_S → Prop} {s b : Int} {f : Int → Int} (hn : n = 0 ∨ n = 1) (hB : By ι n s b f) (hs : 0 ≤ s ∧ s ≤ bm_L 20 n) (h : ∀ ι', By ι' n s (8 * s) f → FrB n ι ι' → K ι') : bC sc 20 [br 2 n] ι (bk0 K H) := by
  obtain ⟨e1, e2, e3⟩ := hB
  have hL := L_20 hn
  refine e_B_fillByte_0 ?_
  rw [e1]
  refine ⟨by omega, h _ ⟨?_, ?_, fun k h1 h2 => ?_⟩ (FrB.u (Or.inl rfl) (FrB.refl _ _))⟩
  · simp (disch := omega) only [up_s, up_k, up_j, up_i]; exact e1
  · simp (disch := omega) only [up_s, up_k, up_j, up_i]
  · simp (disch := omega) only [up_s, up_k, up_j, up_i]
    exact e3 k h1 h2
/-- the four bytes of a number -/
def n4 (x : Int) (k : Int) : Int := if k = 0 then bm_byte (bm_ushr x 24) else if k = 1 then bm_byte (bm_ushr x 16) else if k = 2 then bm_byte (bm_ushr x 8) else bm_byte x
def fs4 (f : Int → Int) (s x : Int) : Int → Int := fun k => if k < s then f k else n4 x (k - s)
theorem s_addNumber {K : bm_S → Prop} {x s b : Int} {f : Int → Int} (hn : n = 0 ∨ n = 1) (hB : By ι n s b f) (hs : 0 ≤ s ∧ s + 4 ≤ bm_L 20 n) (h : ∀ ι', By ι' n (s + 4) (8 * (s + 4)) (fs4 f s x) → FrB n ι ι' → K ι') : bC sc 18 [br 2 n, bi x] ι (bk0 K H) := by
  refine e_B_addNumber_0 ?_
  refine s_add hn hB (by omega) fun ι1 b1 f1 => ?_
  refine s_add hn b1 (by omega) fun ι2 b2 f2 => ?_
  refine s_add hn b2 (by omega) fun ι3 b3 f3 => ?_
  refine s_add hn b3 (by omega) fun ι4 b4 f4 => ?_
  refine h ι4 ⟨by rw [b4.1]; omega, by rw [b4.2.1]; omega, fun k h1 h2 => ?_⟩ (((f1.trans f2).trans f3).trans f4)
  rw [b4.2.2 k h1 (by omega)]
  unfold fs4 n4 fs
  by_cases hk : k < s
  · rw [if_pos hk, if_neg (by omega), if_neg (by omega), if_neg (by omega), if_neg (by omega)]
  · rw [if_neg hk]
    by_cases h0 : k = s
    · rw [if_neg (by omega), if_neg (by omega), if_neg (by omega), if_pos h0, if_pos (by omega)]
    · by_cases h3 : k = s + 1
      · rw [if_neg (by omega), if_neg (by omega), if_pos h3, if_neg (by omega), if_pos (by omega)]
      · by_cases h4 : k = s + 1 + 1
        · rw [if_neg (by omega), if_pos h4, if_neg (by omega), if_neg (by omega), if_pos (by omega)]
        · rw [if_pos (by omega), if_neg (by omega), if_neg (by omega), if_neg (by omega)]
end BytesSpecs
