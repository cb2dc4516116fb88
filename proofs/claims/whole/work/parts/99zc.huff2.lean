/-! pack: parents and depths, pure -/
section Huff2
variable {v : Int → Int} {n : Int}
/-- weights in the end -/
def hW (v : Int → Int) (n : Int) : Int → Int := (ht v n (2 * n - 2).toNat).2
def hP (v : Int → Int) (n : Int) : Int → Int := hpr v n (2 * n - 2).toNat
/-- rows that are right: the weights rise and are no 0 -/
def VR (v : Int → Int) (n : Int) : Prop := 2 ≤ n ∧ (∀ k, 0 ≤ k → k < n → 1 ≤ v k) ∧ ∀ k, 0 ≤ k → k + 1 < n → v k ≤ v (k + 1)
theorem VR.HI (h : VR v n) {u : Nat} (hu : (u : Int) + 2 ≤ 2 * n) : HI v n u := HI_all (by have := h.1; omega) h.2.1 h.2.2 u hu
theorem ht_keep {k : Int} {u : Nat} (hk : k < n + (u : Int) / 2) : ∀ d : Nat, (ht v n (u + d)).2 k = (ht v n u).2 k
  | 0 => rfl
  | d + 1 => by
    rw [show u + (d + 1) = (u + d) + 1 from rfl, ht_W, fu_n (by omega)]
    exact ht_keep hk d
theorem hW_of (h : VR v n) {k : Int} {u : Nat} (hk : k < n + (u : Int) / 2) (hu : (u : Int) + 2 ≤ 2 * n) : hW v n k = (ht v n u).2 k := by
  unfold hW
  rw [show (2 * n - 2).toNat = u + ((2 * n - 2).toNat - u) by omega]
  exact ht_keep hk _
def PI (v : Int → Int) (n : Int) (u : Nat) : Prop := ∀ k, (0 ≤ k ∧ k < (ht v n u).1) ∨ (n ≤ k ∧ k < n + u - (ht v n u).1) → ∃ z : Nat, z < u ∧ tn v n z = k ∧ hpr v n u k = n + (z : Int) / 2 ∧ k < n + (z : Int) / 2
theorem PI_all (h : VR v n) : ∀ u : Nat, (u : Int) + 2 ≤ 2 * n → PI v n u
  | 0, _ => fun k hk => by
    have e : (ht v n 0).1 = 0 := rfl
    rw [e] at hk; omega
  | u + 1, hu => fun k hk => by
    have ih := PI_all h u (by omega)
    have hI := h.HI (u := u) (by omega)
    have h1 := hI.1
    have hor := tn_or (by omega) hI
    have e1 := ht_i (v := v) (n := n) u
    have e2 : hpr v n (u + 1) k = fu (hpr v n u) (tn v n u) (n + (u : Int) / 2) k := rfl
    rw [e2]
    by_cases c : k = tn v n u
    · refine ⟨u, by omega, c.symm, by rw [c]; exact fu_s, ?_⟩
      rcases hor with ⟨e, a, b⟩ | ⟨e, a, b, d⟩ <;> omega
    · rw [fu_n c]
      have : (0 ≤ k ∧ k < (ht v n u).1) ∨ (n ≤ k ∧ k < n + u - (ht v n u).1) := by
        rcases hor with ⟨e, a, b⟩ | ⟨e, a, b, d⟩
        · rw [e, if_pos a] at e1; omega
        · rw [e, if_neg (by omega)] at e1; omega
      obtain ⟨z, z1, z2, z3, z4⟩ := ih k this
      exact ⟨z, by omega, z2, z3, z4⟩
theorem ht_end (h : VR v n) : (ht v n (2 * n - 2).toNat).1 = n := by
  have h2 := h.1
  have hI := h.HI (u := (2 * n - 3).toNat) (by omega)
  have hor := tn_or (by omega) hI
  have h1 := hI.1
  have e1 := ht_i (v := v) (n := n) (2 * n - 3).toNat
  rw [show (2 * n - 2).toNat = (2 * n - 3).toNat + 1 by omega, e1]
  rcases hor with ⟨e, a, b⟩ | ⟨e, a, b, d⟩
  · rw [e, if_pos a]; omega
  · rw [e, if_neg (by omega)]; omega
/-- each node but the last has one above it -/
theorem hP_rg (h : VR v n) {k : Int} (h0 : 0 ≤ k) (h1 : k < 2 * n - 2) : ∃ z : Nat, (z : Int) < 2 * n - 2 ∧ tn v n z = k ∧ hP v n k = n + (z : Int) / 2 ∧ k < n + (z : Int) / 2 := by
  have e := ht_end h
  have h2 := h.1
  obtain ⟨z, a, b, c, d⟩ := PI_all h (2 * n - 2).toNat (by omega) k (by rw [e]; omega)
  exact ⟨z, by omega, b, c, d⟩
theorem hP_gt (h : VR v n) {k : Int} (h0 : 0 ≤ k) (h1 : k < 2 * n - 2) : k < hP v n k ∧ hP v n k ≤ 2 * n - 2 ∧ n ≤ hP v n k := by
  obtain ⟨z, a, b, c, d⟩ := hP_rg h h0 h1
  omega
/-- how deep -/
def hdp (P : Int → Int) (r : Int) : Nat → Int → Int
  | 0, _ => 0
  | m + 1, k => if r ≤ k then 0 else hdp P r m (P k) + 1
theorem hdp_0 (P : Int → Int) (r : Int) : ∀ (m : Nat) (k : Int), 0 ≤ hdp P r m k
  | 0, _ => Int.le_refl 0
  | m + 1, k => by
    have := hdp_0 P r m (P k)
    show 0 ≤ (if r ≤ k then 0 else hdp P r m (P k) + 1)
    split <;> omega
theorem hdp_eq {P P' : Int → Int} {r : Int} (hP : ∀ k, 0 ≤ k → k < r → P' k = P k ∧ k < P k) : ∀ (m m' : Nat) (k : Int), 0 ≤ k → r - k ≤ m → r - k ≤ m' → hdp P r m k = hdp P' r m' k
  | 0, 0, _, _, _, _ => rfl
  | 0, m' + 1, k, h0, h1, h2 => by
    show 0 = (if r ≤ k then 0 else hdp P' r m' (P' k) + 1)
    rw [if_pos (by omega)]
  | m + 1, 0, k, h0, h1, h2 => by
    show (if r ≤ k then 0 else hdp P r m (P k) + 1) = 0
    rw [if_pos (by omega)]
  | m + 1, m' + 1, k, h0, h1, h2 => by
    show (if r ≤ k then 0 else hdp P r m (P k) + 1) = (if r ≤ k then 0 else hdp P' r m' (P' k) + 1)
    by_cases z : r ≤ k
    · rw [if_pos z, if_pos z]
    · have q := hP k h0 (by omega)
      rw [if_neg z, if_neg z, q.1, hdp_eq hP m m' (P k) (by omega) (by omega) (by omega)]
def hD (v : Int → Int) (n k : Int) : Int := hdp (hP v n) (2 * n - 2) (2 * n).toNat k
theorem hD_0 (h : VR v n) {k : Int} (hk : 2 * n - 2 ≤ k) : hD v n k = 0 := by
  have := h.1
  unfold hD
  rw [show (2 * n).toNat = (2 * n - 1).toNat + 1 by omega]
  exact if_pos hk
theorem hD_s (h : VR v n) {k : Int} (h0 : 0 ≤ k) (h1 : k < 2 * n - 2) : hD v n k = hD v n (hP v n k) + 1 := by
  have h2 := h.1
  have hp : ∀ k, 0 ≤ k → k < 2 * n - 2 → hP v n k = hP v n k ∧ k < hP v n k := fun k a b => ⟨rfl, (hP_gt h a b).1⟩
  have q := hp k h0 h1
  unfold hD
  rw [hdp_eq hp (2 * n).toNat ((2 * n).toNat + 1) k h0 (by omega) (by omega)]
  show (if 2 * n - 2 ≤ k then 0 else hdp (hP v n) (2 * n - 2) (2 * n).toNat (hP v n k) + 1) = _
  rw [if_neg (by omega)]
theorem hD_1 (h : VR v n) {k : Int} (h0 : 0 ≤ k) (h1 : k < 2 * n - 2) : 1 ≤ hD v n k := by
  rw [hD_s h h0 h1]
  have : 0 ≤ hD v n (hP v n k) := hdp_0 _ _ _ _
  omega
/-! weights of 1 and 2 alone -/
theorem tn_12 (h : VR v n) (h2 : ∀ k, 0 ≤ k → k < n → v k ≤ 2) : ∀ u : Nat, (u : Int) + 2 ≤ 2 * n → (ht v n u).1 = min (u : Int) n
  | 0, _ => by have := h.1; show (0 : Int) = min ((0 : Nat) : Int) n; omega
  | u + 1, hu => by
    have ih := tn_12 h h2 u (by omega)
    have hI := h.HI (u := u) (by omega)
    have hor := tn_or (by omega) hI
    obtain ⟨h1, hw, -, -, -, h6, -, -, h9⟩ := hI
    rw [ht_i]
    rcases hor with ⟨e, a, b⟩ | ⟨e, a, b, d⟩
    · rw [e, if_pos a]; omega
    · rw [e, if_neg (by omega)]
      by_cases c : (ht v n u).1 < n
      · have d' := d c
        have z := h6 (n + u - (ht v n u).1 - n).toNat (by omega)
        rw [show n + ((n + u - (ht v n u).1 - n).toNat : Int) = n + u - (ht v n u).1 by omega] at z
        rw [z, hw _ c] at d'
        have z1 := h9 (2 * (n + u - (ht v n u).1 - n).toNat) (by omega)
        have z2 := h9 (2 * (n + u - (ht v n u).1 - n).toNat + 1) (by omega)
        have := h2 _ h1.1 c
        omega
      · omega
theorem hP_12 (h : VR v n) (h2 : ∀ k, 0 ≤ k → k < n → v k ≤ 2) {k : Int} (h0 : 0 ≤ k) (h1 : k < 2 * n - 2) : hP v n k = n + k / 2 := by
  obtain ⟨z, a, b, c, d⟩ := hP_rg h h0 h1
  have e := tn_12 h h2 z (by omega)
  have hI := h.HI (u := z) (by omega)
  have hor := tn_or (by omega) hI
  have e' := tn_12 h h2 (z + 1) (by omega)
  rw [ht_i, b, e] at e'
  rw [b, e] at hor
  rw [c]
  rcases hor with ⟨e, a, b⟩ | ⟨e, a, b, d⟩
  · omega
  · rw [if_neg (by omega)] at e'; omega
def dck (n : Nat) : Bool := (List.range n).all fun k => decide (hdp (fun k => (n : Int) + k / 2) (2 * n - 2) (2 * n) k ≤ 5)
theorem dck_all : ∀ n : Nat, n ≤ 18 → dck n = true := by decide +kernel
theorem hD_12 (h : VR v n) (h2 : ∀ k, 0 ≤ k → k < n → v k ≤ 2) (hn : n ≤ 18) {k : Int} (h0 : 0 ≤ k) (h1 : k < n) : hD v n k ≤ 5 := by
  have hn2 := h.1
  have q := dck_all n.toNat (by omega)
  unfold dck at q
  rw [List.all_eq_true] at q
  have q2 := of_decide_eq_true (q k.toNat (List.mem_range.mpr (by omega)))
  rw [show ((n.toNat : Nat) : Int) = n by omega, show ((k.toNat : Nat) : Int) = k by omega] at q2
  unfold hD
  rw [hdp_eq (P' := fun k => n + k / 2) (fun k a b => ⟨(hP_12 h h2 a b).symm, (hP_gt h a b).1⟩) (2 * n).toNat (2 * n.toNat) k h0 (by omega) (by omega)]
  exact q2
end Huff2
