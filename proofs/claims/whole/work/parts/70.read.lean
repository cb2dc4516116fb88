/-! reading bits and numbers -/
def bt (f : Int → Int) (p : Int) : Int := f (p / 8) / bm_p2 (p % 8) % 2
def nm (β : Int → Int) (p : Int) : Nat → Int
  | 0 => 0
  | n + 1 => nm β p n + β (p + n) * bm_p2 n
theorem bm_or_nn {x y : Int} (hx : 0 ≤ x ∧ x < 2147483648) (hy : 0 ≤ y ∧ y < 2147483648) : bm_or x y = ((x.toNat ||| y.toNat : Nat) : Int) := by
  have e1 : ∀ z : Int, 0 ≤ z ∧ z < 2147483648 → (Int32.ofInt z).toBitVec.toNat = z.toNat := fun z hz => by
    show (BitVec.ofInt 32 z).toNat = _
    rw [BitVec.toNat_ofInt, Int.emod_eq_of_lt hz.1 (by omega)]
  unfold bm_or
  rw [← Int32.toInt_toBitVec, Int32.toBitVec_or, BitVec.toInt_eq_toNat_cond, BitVec.toNat_or, e1 x hx, e1 y hy]
  have : x.toNat ||| y.toNat < 2 ^ 31 := Nat.or_lt_two_pow (by omega) (by omega)
  rw [if_pos (by omega)]
theorem or_add {v b k : Int} (hk : 0 ≤ k ∧ k < 31) (hv : 0 ≤ v ∧ v < bm_p2 k) (hb : b = 0 ∨ b = 1) : bm_or v (b * bm_p2 k) = v + b * bm_p2 k := by
  have hp : bm_p2 k ≤ 1073741824 := (p2_le 30 (by omega) 1073741824 rfl).2
  rcases hb with rfl | rfl
  · rw [Int.zero_mul, bm_or_nn (by omega) (by omega)]
    simp
    omega
  · rw [Int.one_mul, bm_or_nn (by omega) (by omega)]
    have e : (bm_p2 k).toNat = 2 ^ k.toNat := rfl
    have h := Nat.two_pow_add_eq_or_of_lt (i := k.toNat) (b := v.toNat) (by omega) 1
    rw [Nat.mul_one] at h
    rw [e, Nat.or_comm, ← h]
    omega
theorem nm_rg {β : Int → Int} {p : Int} (hβ : ∀ q, β q = 0 ∨ β q = 1) : ∀ (n : Nat), 0 ≤ nm β p n ∧ nm β p n < bm_p2 n
  | 0 => by unfold nm; exact ⟨by omega, bm_p2pos _⟩
  | n + 1 => by
    have h := nm_rg (p := p) hβ n
    have e : bm_p2 ((n + 1 : Nat) : Int) = 2 * bm_p2 n := by
      rw [show ((n + 1 : Nat) : Int) = (n : Int) + 1 by omega]; exact p2_s (by omega)
    unfold nm
    rw [e]
    rcases hβ (p + n) with q | q
    · rw [q]; omega
    · rw [q]; omega
/-- comp: the reader -/
def cR (ι : bm_S) (β : Int → Int) (lim p r : Int) : Prop := ι 0 0 1 = p ∧ ι 0 0 2 = lim ∧ ι 0 0 3 = r ∧ ∀ q, 0 ≤ q → q < lim → bt (ι 20 0) q = β q
/-- the other -/
def mR (ι : bm_S) (β : Int → Int) (lim p : Int) : Prop := ι 13 0 16 = p ∧ 8 * ι 13 0 15 = lim ∧ ∀ q, 0 ≤ q → q < lim → bt (ι 74 0) q = β q
/-- what is known of the bits -/
def wfβ (β : Int → Int) (lim : Int) : Prop := (∀ q, β q = 0 ∨ β q = 1) ∧ 0 ≤ lim ∧ lim ≤ 19200 ∧ lim % 8 = 0
abbrev fR (t : Nat) (_ j : Int) : Prop := t = 0 ∧ (j = 1 ∨ j = 3)
abbrev gR (t : Nat) (_ j : Int) : Prop := (t = 13 ∧ j = 16) ∨ (t = 12 ∧ j = 6)
section Reading
variable {sc : bm_Sc} {ι : bm_S} {H : Nat × Int → bm_S → Prop} {β : Int → Int} {lim p r : Int}
theorem s_number41 {K : Int → bm_S → Prop} (hw : wfβ β lim) {n : Int} (hn : n ≤ 24) : ∀ (m : Nat) (k : Nat) (p : Int) (ι : bm_S), (k : Int) = n - m → 0 ≤ p - k → p + m ≤ lim → cR ι β lim p r → K (nm β (p - k) n.toNat) (up ι 0 0 1 (p + m)) → (∀ x, up (up ι 0 0 1 (p + 1)) 0 0 1 x = up ι 0 0 1 x) → bW sc 4 41 [br 0 0, bi n, bi (nm β (p - k) k), bi k] [] ι (bk1 K H)
  | 0, k, p, ι, hk, h0, h1, hR, h, _ => by
    refine e_R_number_41 (bif_t (by omega) ?_)
    rw [show k = n.toNat by omega]
    have e : up ι 0 0 1 (p + ((0 : Nat) : Int)) = ι := by
      funext t i j
      unfold up
      split
      · rename_i q
        rw [q.1, q.2.1, q.2.2, hR.1]; omega
      · rfl
    rw [e] at h
    rw [show (n.toNat : Nat) = k by omega] at h ⊢
    exact h
  | m + 1, k, p, ι, hk, h0, h1, hR, h, hu => by
    obtain ⟨r1, r2, r3, r4⟩ := hR
    obtain ⟨w1, w2, w3, w4⟩ := hw
    have hb : ι 20 0 (p / 8) / bm_p2 (p % 8) % 2 = β p := r4 p (by omega) (by omega)
    have hv := nm_rg (p := p - k) w1 k
    have hp2 := p2_le (k := (k : Int)) 24 (by omega) 16777216 rfl
    have hbb := w1 p
    have hmul : 0 ≤ β p * bm_p2 k ∧ β p * bm_p2 k ≤ 16777216 := by
      rcases hbb with q | q
      · rw [q]; omega
      · rw [q]; omega
    refine e_R_number_41 (bif_f (by omega) ?_)
    rw [r1, hb]
    refine ⟨by omega, by omega, by omega, ⟨by omega, by omega⟩, by omega, by omega, ?_⟩
    rw [or_add (by omega) hv hbb]
    have e1 : nm β (p - k) k + β p * bm_p2 k = nm β (p + 1 - ((k + 1 : Nat) : Int)) (k + 1) := by
      rw [show p + 1 - ((k + 1 : Nat) : Int) = p - k by omega]
      show _ = nm β (p - k) k + β (p - k + k) * bm_p2 k
      rw [show p - (k : Int) + k = p by omega]
    rw [e1, show (k : Int) + 1 = ((k + 1 : Nat) : Int) by omega]
    refine s_number41 ⟨w1, w2, w3, w4⟩ hn m (k + 1) (p + 1) _ (by omega) (by omega) (by omega) ⟨by simp (disch := omega) only [up_s, up_k, up_j, up_i], by simp (disch := omega) only [up_s, up_k, up_j, up_i]; exact r2, by simp (disch := omega) only [up_s, up_k, up_j, up_i]; exact r3, fun q a b => ?_⟩ ?_ ?_
    · have : up ι 0 0 1 (p + 1) 20 0 = ι 20 0 := funext fun j => up_k (by decide)
      rw [this]; exact r4 q a b
    · rw [hu, show p + 1 - ((k + 1 : Nat) : Int) = p - k by omega, show p + 1 + (m : Int) = p + ((m + 1 : Nat) : Int) by omega]
      exact h
    · intro x
      funext t i j
      unfold up
      split <;> rfl
theorem up_up {ι : bm_S} {t : Nat} {i j x y : Int} : up (up ι t i j x) t i j y = up ι t i j y := by
  funext t' i' j'
  unfold up
  split <;> rfl
/-- n bits are there -/
theorem s_number {K : Int → bm_S → Prop} {n : Int} (hw : wfβ β lim) (hn : 0 ≤ n ∧ n ≤ 24) (hp : 0 ≤ p ∧ p + n ≤ lim) (hR : cR ι β lim p 0) (h : K (nm β p n.toNat) (up ι 0 0 1 (p + n))) : bC sc 4 [br 0 0, bi n] ι (bk1 K H) := by
  obtain ⟨w1, w2, w3, w4⟩ := hw
  have hR' := hR
  obtain ⟨r1, r2, r3, r4⟩ := hR
  refine e_R_number_0 (bif_t r3 ⟨by omega, bif_t (by omega) ?_⟩)
  have := s_number41 (sc := sc) (H := H) (K := K) (r := 0) (β := β) (lim := lim) ⟨w1, w2, w3, w4⟩ hn.2 n.toNat 0 p ι (by omega) (by omega) (by omega) hR' (by rw [show p - ((0 : Nat) : Int) = p by omega, show p + ((n.toNat : Nat) : Int) = p + n by omega]; exact h) (fun x => up_up)
  exact this
/-- too few bits -/
theorem s_number_end {K : Int → bm_S → Prop} {n : Int} (hw : wfβ β lim) (hp : 0 ≤ p ∧ p ≤ lim ∧ lim < p + n) (hR : cR ι β lim p 0) (h : K 0 (up (up ι 0 0 1 lim) 0 0 3 1)) : bC sc 4 [br 0 0, bi n] ι (bk1 K H) := by
  obtain ⟨w1, w2, w3, w4⟩ := hw
  obtain ⟨r1, r2, r3, r4⟩ := hR
  refine e_R_number_0 (bif_t r3 ⟨by omega, bif_f (by omega) ?_⟩)
  rw [r2]; exact h
theorem s_number_bad {K : Int → bm_S → Prop} {n : Int} (hr : ι 0 0 3 ≠ 0) (h : K 0 ι) : bC sc 4 [br 0 0, bi n] ι (bk1 K H) := e_R_number_0 (bif_f hr h)
theorem m_fail {K : bm_S → Prop} {x : Int} (h : H (12, 0) (up ι 12 0 6 x)) : bC sc 152 [br 13 0, bi x] ι (bk0 K H) := e_M_fail_0 h
theorem m_bit {K : Int → bm_S → Prop} (hw : wfβ β lim) (hp : 0 ≤ p ∧ p < lim) (hR : mR ι β lim p) (h : K (β p) (up ι 13 0 16 (p + 1))) : bC sc 173 [br 13 0] ι (bk1 K H) := by
  obtain ⟨w1, w2, w3, w4⟩ := hw
  obtain ⟨r1, r2, r3⟩ := hR
  have hb : ι 74 0 (p / 8) / bm_p2 (p % 8) % 2 = β p := r3 p hp.1 hp.2
  refine e_M_bit_0 ⟨by omega, bif_f (by omega) ?_⟩
  rw [r1, hb]
  exact ⟨by omega, by omega, by omega, by omega, by omega, h⟩
theorem m_bit_end {K : Int → bm_S → Prop} (hw : wfβ β lim) (hR : mR ι β lim lim) (h : H (12, 0) (up ι 12 0 6 1)) : bC sc 173 [br 13 0] ι (bk1 K H) := by
  obtain ⟨w1, w2, w3, w4⟩ := hw
  obtain ⟨r1, r2, r3⟩ := hR
  exact e_M_bit_0 ⟨by omega, bif_t (by omega) (m_fail h)⟩
theorem mR.to {q : Int} (hR : mR ι β lim p) : mR (up ι 13 0 16 q) β lim q := by
  obtain ⟨r1, r2, r3⟩ := hR
  refine ⟨by simp (disch := omega) only [up_s, up_k, up_j, up_i], by simp (disch := omega) only [up_s, up_k, up_j, up_i]; exact r2, fun k a b => ?_⟩
  have : up ι 13 0 16 q 74 0 = ι 74 0 := funext fun j => up_k (by decide)
  rw [this]; exact r3 k a b
theorem cR.to {q : Int} (hR : cR ι β lim p r) : cR (up ι 0 0 1 q) β lim q r := by
  obtain ⟨r1, r2, r3, r4⟩ := hR
  refine ⟨by simp (disch := omega) only [up_s, up_k, up_j, up_i], by simp (disch := omega) only [up_s, up_k, up_j, up_i]; exact r2, by simp (disch := omega) only [up_s, up_k, up_j, up_i]; exact r3, fun k a b => ?_⟩
  have : up ι 0 0 1 q 20 0 = ι 20 0 := funext fun j => up_k (by decide)
  rw [this]; exact r4 k a b
theorem m_number4 {K : Int → bm_S → Prop} (hw : wfβ β lim) {n : Int} (hn : n ≤ 24) : ∀ (m : Nat) (k : Nat) (p : Int) (ι : bm_S), (k : Int) = n - m → 0 ≤ p - k → p + m ≤ lim → mR ι β lim p → K (nm β (p - k) n.toNat) (up ι 13 0 16 (p + m)) → bW sc 174 4 [br 13 0, bi n, bi (nm β (p - k) k), bi k] [] ι (bk1 K H)
  | 0, k, p, ι, hk, h0, h1, hR, h => by
    refine e_M_number_4 (bif_t (by omega) ?_)
    have e : up ι 13 0 16 (p + ((0 : Nat) : Int)) = ι := by
      funext t i j
      unfold up
      split
      · rename_i q
        rw [q.1, q.2.1, q.2.2, hR.1]; omega
      · rfl
    rw [e] at h
    rw [show (n.toNat : Nat) = k by omega] at h
    exact h
  | m + 1, k, p, ι, hk, h0, h1, hR, h => by
    have w1 := hw.1
    have hv := nm_rg (p := p - k) w1 k
    have hp2 := p2_le (k := (k : Int)) 24 (by omega) 16777216 rfl
    have hbb := w1 p
    have hmul : 0 ≤ β p * bm_p2 k ∧ β p * bm_p2 k ≤ 16777216 := by
      rcases hbb with q | q
      · rw [q]; omega
      · rw [q]; omega
    refine e_M_number_4 (bif_f (by omega) (m_bit hw (by omega) hR ⟨⟨by omega, by omega⟩, by omega, ?_⟩))
    rw [or_add (by omega) hv hbb]
    have e1 : nm β (p - k) k + β p * bm_p2 k = nm β (p + 1 - ((k + 1 : Nat) : Int)) (k + 1) := by
      rw [show p + 1 - ((k + 1 : Nat) : Int) = p - k by omega]
      show _ = nm β (p - k) k + β (p - k + k) * bm_p2 k
      rw [show p - (k : Int) + k = p by omega]
    rw [e1, show (k : Int) + 1 = ((k + 1 : Nat) : Int) by omega]
    refine m_number4 hw hn m (k + 1) (p + 1) _ (by omega) (by omega) (by omega) hR.to ?_
    rw [up_up, show p + 1 - ((k + 1 : Nat) : Int) = p - k by omega, show p + 1 + (m : Int) = p + ((m + 1 : Nat) : Int) by omega]
    exact h
theorem m_number {K : Int → bm_S → Prop} {n : Int} (hw : wfβ β lim) (hn : 0 ≤ n ∧ n ≤ 24) (hp : 0 ≤ p ∧ p + n ≤ lim) (hR : mR ι β lim p) (h : K (nm β p n.toNat) (up ι 13 0 16 (p + n))) : bC sc 174 [br 13 0, bi n] ι (bk1 K H) := by
  refine e_M_number_0 ?_
  have := m_number4 (sc := sc) (H := H) (K := K) hw hn.2 n.toNat 0 p ι (by omega) (by omega) (by omega) hR (by rw [show p - ((0 : Nat) : Int) = p by omega, show p + ((n.toNat : Nat) : Int) = p + n by omega]; exact h)
  exact this
theorem m_number4_end {K : Int → bm_S → Prop} (hw : wfβ β lim) {n : Int} (hn : n ≤ 24) : ∀ (m : Nat) (k : Nat) (p : Int) (ι : bm_S), p = lim - m → (k : Int) + m < n → 0 ≤ p - k → mR ι β lim p → H (12, 0) (up (up ι 13 0 16 lim) 12 0 6 1) → bW sc 174 4 [br 13 0, bi n, bi (nm β (p - k) k), bi k] [] ι (bk1 K H)
  | 0, k, p, ι, hk, h1, h0, hR, h => by
    have e0 : p = lim := by omega
    subst e0
    refine e_M_number_4 (bif_f (by omega) (m_bit_end hw hR ?_))
    have e : up ι 13 0 16 p = ι := by
      funext t i j
      unfold up
      split
      · rename_i q
        rw [q.1, q.2.1, q.2.2, hR.1]
      · rfl
    rw [e] at h
    exact h
  | m + 1, k, p, ι, hk, h1, h0, hR, h => by
    have w1 := hw.1
    have hv := nm_rg (p := p - k) w1 k
    have hp2 := p2_le (k := (k : Int)) 24 (by omega) 16777216 rfl
    have hbb := w1 p
    have hmul : 0 ≤ β p * bm_p2 k ∧ β p * bm_p2 k ≤ 16777216 := by
      rcases hbb with q | q
      · rw [q]; omega
      · rw [q]; omega
    refine e_M_number_4 (bif_f (by omega) (m_bit hw (by omega) hR ⟨⟨by omega, by omega⟩, by omega, ?_⟩))
    rw [or_add (by omega) hv hbb]
    have e1 : nm β (p - k) k + β p * bm_p2 k = nm β (p + 1 - ((k + 1 : Nat) : Int)) (k + 1) := by
      rw [show p + 1 - ((k + 1 : Nat) : Int) = p - k by omega]
      show _ = nm β (p - k) k + β (p - k + k) * bm_p2 k
      rw [show p - (k : Int) + k = p by omega]
    rw [e1, show (k : Int) + 1 = ((k + 1 : Nat) : Int) by omega]
    refine m_number4_end hw hn m (k + 1) (p + 1) _ (by omega) (by omega) (by omega) hR.to ?_
    rw [up_up]
    exact h
theorem m_number_end {K : Int → bm_S → Prop} {n : Int} (hw : wfβ β lim) (hn : n ≤ 24) (hp : 0 ≤ p ∧ p ≤ lim ∧ lim < p + n) (hR : mR ι β lim p) (h : H (12, 0) (up (up ι 13 0 16 lim) 12 0 6 1)) : bC sc 174 [br 13 0, bi n] ι (bk1 K H) := by
  refine e_M_number_0 ?_
  have := m_number4_end (sc := sc) (H := H) (K := K) hw hn (lim - p).toNat 0 p ι (by omega) (by omega) (by omega) hR h
  exact this
end Reading
