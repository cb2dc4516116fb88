/-! codes: how many signs of a length, first codes, reading a sign -/
def cn (L : Int → Int) (n : Int) : Nat → Int
  | 0 => 0
  | a + 1 => cn L n a + (if L a = n then 1 else 0)
/-- how many signs have the length n -/
def mc (L : Int → Int) (a : Nat) (n : Nat) : Int := if n = 0 then 0 else cn L n a
/-- the first code of length n -/
def Fc (L : Int → Int) (a : Nat) : Nat → Int
  | 0 => 0
  | n + 1 => 2 * (Fc L a n + mc L a n)
/-- how many are shorter -/
def bef (L : Int → Int) (a : Nat) : Nat → Int
  | 0 => 0
  | n + 1 => bef L a n + mc L a n
theorem cn_nn (L : Int → Int) (n : Int) : ∀ (a : Nat), 0 ≤ cn L n a ∧ cn L n a ≤ a
  | 0 => by unfold cn; omega
  | a + 1 => by
    have := cn_nn L n a
    unfold cn
    split <;> omega
theorem cn_mono (L : Int → Int) (n : Int) (a : Nat) : ∀ (d : Nat), cn L n a ≤ cn L n (a + d)
  | 0 => Int.le_refl _
  | d + 1 => by
    have := cn_mono L n a d
    rw [← Nat.add_assoc]
    show _ ≤ cn L n (a + d) + _
    split <;> omega
theorem cn_le (L : Int → Int) (n : Int) {s a : Nat} (h : s ≤ a) : cn L n s ≤ cn L n a := by
  have := cn_mono L n s (a - s)
  rw [show s + (a - s) = a by omega] at this
  exact this
theorem cn_lt (L : Int → Int) (n : Int) {s a : Nat} (h : s < a) (hs : L s = n) : cn L n s < cn L n a := by
  have h1 := cn_le L n (show s + 1 ≤ a by omega)
  have h2 : cn L n (s + 1) = cn L n s + 1 := by
    show cn L n s + _ = _
    rw [if_pos hs]
  omega
theorem cn_surj (L : Int → Int) (n r : Int) (h0 : 0 ≤ r) : ∀ (a : Nat), r < cn L n a → ∃ s : Nat, s < a ∧ L s = n ∧ cn L n s = r
  | 0, h => by unfold cn at h; omega
  | a + 1, h => by
    by_cases q : r < cn L n a
    · obtain ⟨s, h1, h2, h3⟩ := cn_surj L n r h0 a q
      exact ⟨s, by omega, h2, h3⟩
    · have h' : cn L n a + (if L a = n then 1 else 0) > r := h
      by_cases e : L a = n
      · rw [if_pos e] at h'
        exact ⟨a, by omega, e, by omega⟩
      · rw [if_neg e] at h'; omega
theorem cn_ext {L L' : Int → Int} {n : Int} : ∀ {a : Nat}, (∀ s : Int, 0 ≤ s → s < a → L s = L' s) → cn L n a = cn L' n a
  | 0, _ => rfl
  | a + 1, h => by
    unfold cn
    rw [cn_ext (a := a) (fun s h1 h2 => h s h1 (by omega)), h a (by omega) (by omega)]
theorem mc_nn (L : Int → Int) (a n : Nat) : 0 ≤ mc L a n ∧ mc L a n ≤ a := by
  unfold mc
  split
  · omega
  · exact cn_nn _ _ _
theorem bef_nn (L : Int → Int) (a : Nat) : ∀ n : Nat, 0 ≤ bef L a n ∧ bef L a n ≤ n * a
  | 0 => by unfold bef; omega
  | n + 1 => by
    have h := bef_nn L a n
    have h2 := mc_nn L a n
    unfold bef
    have e : (((n + 1 : Nat) : Int)) * a = n * a + a := by rw [show ((n + 1 : Nat) : Int) = (n : Int) + 1 by omega, Int.add_mul, Int.one_mul]
    omega
theorem bef_mono (L : Int → Int) (a n : Nat) : ∀ d : Nat, bef L a n ≤ bef L a (n + d)
  | 0 => Int.le_refl _
  | d + 1 => by
    have := bef_mono L a n d
    have h2 := mc_nn L a (n + d)
    show _ ≤ bef L a (n + d) + mc L a (n + d)
    omega
theorem mc_succ (L : Int → Int) (a n : Nat) : mc L (a + 1) n = mc L a n + (if 1 ≤ L a ∧ L a = n then 1 else 0) := by
  unfold mc
  by_cases h : n = 0
  · rw [if_pos h, if_pos h, if_neg (by omega)]; omega
  · rw [if_neg h, if_neg h]
    show cn L n a + _ = _
    by_cases q : L a = n
    · rw [if_pos q, if_pos (by omega)]
    · rw [if_neg q, if_neg (by omega)]
theorem bef_succ (L : Int → Int) (a : Nat) : ∀ n : Nat, bef L (a + 1) n = bef L a n + (if 1 ≤ L a ∧ L a < n then 1 else 0)
  | 0 => by unfold bef; rw [if_neg (by omega)]; omega
  | n + 1 => by
    unfold bef
    rw [bef_succ L a n, mc_succ]
    by_cases q : 1 ≤ L a ∧ L a < n
    · rw [if_pos q, if_neg (by omega), if_pos (by omega)]; omega
    · rw [if_neg q]
      by_cases q2 : 1 ≤ L a ∧ L a = n
      · rw [if_pos q2, if_pos (by omega)]; omega
      · rw [if_neg q2, if_neg (by omega)]; omega
theorem bef_zero (L : Int → Int) : ∀ n : Nat, bef L 0 n = 0
  | 0 => rfl
  | n + 1 => by
    unfold bef
    rw [bef_zero L n]
    unfold mc
    split <;> rfl
theorem bef_le (L : Int → Int) (n : Nat) : ∀ a : Nat, bef L a n ≤ a
  | 0 => by rw [bef_zero]; omega
  | a + 1 => by
    have := bef_le L n a
    rw [bef_succ]
    split <;> omega
theorem Fc_nn (L : Int → Int) (a : Nat) (ha : a ≤ 704) : ∀ n : Nat, 0 ≤ Fc L a n ∧ Fc L a n ≤ 704 * (2 ^ (n + 1) - 2)
  | 0 => by unfold Fc; omega
  | n + 1 => by
    have h := Fc_nn L a ha n
    have h2 := mc_nn L a n
    have e : (2 : Int) ^ (n + 1 + 1) = 2 * 2 ^ (n + 1) := by rw [Int.pow_succ]; omega
    unfold Fc
    rw [e]
    omega
theorem p16 {n : Nat} (h : n ≤ 16) : (2 : Int) ^ n ≤ 65536 ∧ 1 ≤ (2 : Int) ^ n := by
  have h1 := Nat.pow_le_pow_right (n := 2) (by decide) h
  have h2 := Nat.pow_pos (n := n) (show 0 < 2 by decide)
  have e : ((2 ^ n : Nat) : Int) = (2 : Int) ^ n := by rw [Int.natCast_pow]; rfl
  omega
theorem Fc_b (L : Int → Int) (a : Nat) (ha : a ≤ 704) (n : Nat) (hn : n ≤ 16) : 0 ≤ Fc L a n ∧ Fc L a n ≤ 92273280 := by
  have h := Fc_nn L a ha n
  have h2 := p16 (n := n) hn
  have e : (2 : Int) ^ (n + 1) = 2 * 2 ^ n := by rw [Int.pow_succ]; omega
  rw [e] at h
  omega
/-- a code as comp has it -/
def CodeC (ι : bm_S) (c lone : Int) (L : Int → Int) (a : Nat) : Prop :=
  (0 ≤ lone ∧ ι 3 c 2 = 1 ∧ ι 22 c 0 = lone ∧ (∀ n : Nat, 1 ≤ n → n ≤ 15 → ι 21 c n = 0)) ∨
  (lone = -1 ∧ ι 3 c 2 = bef L a 16 ∧ (∀ n : Nat, 1 ≤ n → n ≤ 15 → ι 21 c n = mc L a n) ∧ ∀ s : Nat, s < a → 1 ≤ L s → L s ≤ 15 → ι 22 c (bef L a (L s).toNat + cn L (L s) s) = s)
/-- a code as the other has it -/
def CodeM (ι : bm_S) (st lone : Int) (L : Int → Int) (a : Nat) : Prop :=
  ι 73 0 st = lone ∧ (∀ s : Nat, s < a → ι 71 0 (st + s) = L s ∧ (1 ≤ L s → L s ≤ 15 → ι 72 0 (st + s) = Fc L a (L s).toNat + cn L (L s) s))
/-- a code that leaves no bits without a sign -/
def CodeOK (lone : Int) (L : Int → Int) (a : Nat) : Prop := (∀ s : Nat, s < a → 0 ≤ L s ∧ L s ≤ 15) ∧ ((0 ≤ lone ∧ lone < a) ∨ (lone = -1 ∧ Fc L a 16 = 65536))
theorem Fc16 (L : Int → Int) (a : Nat) : Fc L a 16 ≤ 32768 * bef L a 16 := by
  have h : ∀ n, 0 ≤ mc L a n := fun n => (mc_nn L a n).1
  have z : mc L a 0 = 0 := rfl
  simp only [Fc, bef, z]
  have h1 := h 1; have h2 := h 2; have h3 := h 3; have h4 := h 4; have h5 := h 5; have h6 := h 6; have h7 := h 7; have h8 := h 8
  have h9 := h 9; have h10 := h 10; have h11 := h 11; have h12 := h 12; have h13 := h 13; have h14 := h 14; have h15 := h 15
  omega
section Signs
variable {sc : bm_Sc} {β : Int → Int} {lim : Int}
/-- the other looks through the signs: found -/
theorem m_sign40 {ι : bm_S} {H : Nat × Int → bm_S → Prop} {K : Int → bm_S → Prop} {st a v n s : Int} (hst : 0 ≤ st ∧ st + a ≤ 18000) (hs : s < a) (h1 : ι 71 0 (st + s) = n) (h2 : ι 72 0 (st + s) = v) : ∀ (m : Nat) (k : Int), k = s - m → 0 ≤ k → (∀ q, k ≤ q → q < s → ¬ (ι 71 0 (st + q) = n ∧ ι 72 0 (st + q) = v)) → K s ι → bW sc 176 40 [br 13 0, bi st, bi a, bi v, bi n, bi k] [] ι (bk1 K H)
  | 0, k, hk, h0, hq, h => by
    have e : k = s := by omega
    subst e
    exact e_M_sign_40 (bif_f (by omega) ⟨by omega, by omega, bif_t h1 ⟨by omega, by omega, bif_t h2 h⟩⟩)
  | m + 1, k, hk, h0, hq, h => by
    have ih := m_sign40 (K := K) (H := H) hst hs h1 h2 m (k + 1) (by omega) (by omega) (fun q a b => hq q (by omega) b) h
    refine e_M_sign_40 (bif_f (by omega) ⟨by omega, by omega, bif_i (fun e1 => ⟨by omega, by omega, bif_f (fun e2 => hq k (by omega) (by omega) ⟨e1, e2⟩) ⟨by omega, ih⟩⟩) (fun e1 => ⟨by omega, ih⟩)⟩)
/-- none -/
theorem m_sign40n {ι : bm_S} {Q : bm_O → bm_S → Prop} {st a v n : Int} (hn : 1 ≤ n ∧ n ≤ 15) (hst : 0 ≤ st ∧ st + a ≤ 18000) : ∀ (m : Nat) (k : Int), k = a - m → 0 ≤ k → (∀ q, k ≤ q → q < a → ¬ (ι 71 0 (st + q) = n ∧ ι 72 0 (st + q) = v)) → (bW sc 176 21 [br 13 0, bi st, bi a, bi v, bi (n + 1), bi a] [] ι Q) → bW sc 176 40 [br 13 0, bi st, bi a, bi v, bi n, bi k] [] ι Q
  | 0, k, hk, h0, hq, h => by
    have e : k = a := by omega
    subst e
    exact e_M_sign_40 (bif_t (by omega) ⟨by omega, h⟩)
  | m + 1, k, hk, h0, hq, h => by
    have ih := m_sign40n hn hst m (k + 1) (by omega) (by omega) (fun q a b => hq q (by omega) b) h
    refine e_M_sign_40 (bif_f (by omega) ⟨by omega, by omega, bif_i (fun e1 => ⟨by omega, by omega, bif_f (fun e2 => hq k (by omega) (by omega) ⟨e1, e2⟩) ⟨by omega, ih⟩⟩) (fun e1 => ⟨by omega, ih⟩)⟩)
end Signs
