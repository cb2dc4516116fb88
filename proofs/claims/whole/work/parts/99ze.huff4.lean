/-! pack: no code is longer than 15; the bound of all costs -/
section Huff4
variable {v : Int → Int} {n : Int}
theorem tw_mono (h : VR v n) {z : Nat} : ∀ d : Nat, (z : Int) + d < 2 * n - 2 → tw v n z ≤ tw v n (z + d)
  | 0, _ => Int.le_refl _
  | d + 1, hd => by
    have a := tw_mono h (z := z) d (by omega)
    have b := (h.HI (u := z + d + 2) (by omega)).2.2.2.2.2.2.2.1 (z + d) (by omega)
    rw [show z + (d + 1) = z + d + 1 from rfl]
    omega
theorem tw_1 (h : VR v n) {z : Nat} (hz : (z : Int) < 2 * n - 2) : 1 ≤ tw v n z := (h.HI (u := z + 1) (by omega)).2.2.2.2.2.2.2.2 z (by omega)
theorem hW_tn (h : VR v n) {z : Nat} (hz : (z : Int) < 2 * n - 2) : hW v n (tn v n z) = tw v n z := by
  have hor := tn_or (by omega) (h.HI (u := z) (by omega))
  exact hW_of h (by rcases hor with ⟨e, a, b⟩ | ⟨e, a, b, c⟩ <;> omega) (by omega)
theorem hW_in (h : VR v n) {t : Nat} (ht : (t : Int) + 1 < n) : hW v n (n + t) = tw v n (2 * t) + tw v n (2 * t + 1) := (h.HI (u := (2 * n - 2).toNat) (by have := h.1; omega)).2.2.2.2.2.1 t (by omega)
theorem hW_2 (h : VR v n) {k : Int} (h0 : 0 ≤ k) (h1 : k < 2 * n - 2) : 2 ≤ hW v n (hP v n k) ∧ 1 ≤ hW v n k := by
  obtain ⟨z, a, b, c, d⟩ := hP_rg h h0 h1
  have e := hW_in h (t := z / 2) (by omega)
  rw [show n + ((z / 2 : Nat) : Int) = n + (z : Int) / 2 by omega] at e
  have e1 := tw_1 h (z := 2 * (z / 2)) (by omega)
  have e2 := tw_1 h (z := 2 * (z / 2) + 1) (by omega)
  have e3 := hW_tn h a
  have e4 := tw_1 h a
  rw [b] at e3
  rw [c]; omega
theorem hW_3 (h : VR v n) {k : Int} (h0 : 0 ≤ k) (h1 : k < 2 * n - 2) (h2 : hP v n k < 2 * n - 2) : hW v n (hP v n k) + hW v n k ≤ hW v n (hP v n (hP v n k)) := by
  have hp := hP_gt h h0 h1
  obtain ⟨z, a, b, c, d⟩ := hP_rg h h0 h1
  obtain ⟨y, a', b', c', d'⟩ := hP_rg h (k := hP v n k) (by omega) h2
  have e := hW_in h (t := y / 2) (by omega)
  rw [show n + ((y / 2 : Nat) : Int) = n + (y : Int) / 2 by omega] at e
  have e1 := hW_tn h a
  have e2 := hW_tn h a'
  rw [b] at e1
  rw [b'] at e2
  rw [c', e, e1, e2]
  by_cases q : y % 2 = 0
  · have m := tw_mono h (z := z) (y + 1 - z) (by omega)
    rw [show z + (y + 1 - z) = y + 1 by omega] at m
    rw [show 2 * (y / 2) = y by omega]; omega
  · have m := tw_mono h (z := z) (y - 1 - z) (by omega)
    rw [show z + (y - 1 - z) = y - 1 by omega] at m
    rw [show 2 * (y / 2) = y - 1 by omega, show y - 1 + 1 = y by omega]; omega
def fb : Nat → Int
  | 0 => 0
  | 1 => 1
  | m + 2 => fb (m + 1) + fb m
theorem fb_0 : ∀ m : Nat, 0 ≤ fb m ∧ fb m ≤ fb (m + 1)
  | 0 => by decide
  | m + 1 => by
    have := fb_0 m
    have e : fb (m + 2) = fb (m + 1) + fb m := rfl
    show 0 ≤ fb (m + 1) ∧ fb (m + 1) ≤ fb (m + 2)
    rw [e]; omega
theorem fb_le {m : Nat} : ∀ d : Nat, fb m ≤ fb (m + d)
  | 0 => Int.le_refl _
  | d + 1 => Int.le_trans (fb_le d) (fb_0 (m + d)).2
theorem hfib (h : VR v n) : ∀ (d : Nat) (k : Int), 0 ≤ k → k < 2 * n - 2 → hD v n k = d + 1 → fb (d + 1) * hW v n (hP v n k) + fb d * hW v n k ≤ hW v n (2 * n - 2)
  | 0, k, h0, h1, hd => by
    have hp := hP_gt h h0 h1
    have e := hD_s h h0 h1
    have : hP v n k = 2 * n - 2 := by
      by_cases z : hP v n k < 2 * n - 2
      · have := hD_1 h (k := hP v n k) (by omega) z; omega
      · omega
    rw [this]
    show 1 * _ + 0 * _ ≤ _
    omega
  | d + 1, k, h0, h1, hd => by
    have hp := hP_gt h h0 h1
    have e := hD_s h h0 h1
    have hlt : hP v n k < 2 * n - 2 := by
      by_cases z : hP v n k < 2 * n - 2
      · exact z
      · have := hD_0 h (k := hP v n k) (by omega); omega
    have ih := hfib h d (hP v n k) (by omega) hlt (by omega)
    have k3 := hW_3 h h0 h1 hlt
    have f0 := (fb_0 (d + 1)).1
    have m1 := Int.mul_le_mul_of_nonneg_left k3 f0
    rw [Int.mul_add] at m1
    have e2 : fb (d + 1 + 1) = fb (d + 1) + fb d := rfl
    rw [e2, Int.add_mul]
    omega
theorem hD_15 (h : VR v n) (hs : sm v 0 n ≤ 2000) {k : Int} (h0 : 0 ≤ k) (h1 : k < n) : hD v n k ≤ 15 := by
  have hn := h.1
  by_cases z : hD v n k ≤ 15
  · exact z
  · have q := hfib h (hD v n k - 1).toNat k h0 (by omega) (by omega)
    rw [hW_root h] at q
    have w := hW_2 h h0 (by omega)
    have f1 : fb 16 ≤ fb ((hD v n k - 1).toNat + 1) := by
      have := fb_le (m := 16) ((hD v n k - 1).toNat + 1 - 16)
      rw [show 16 + ((hD v n k - 1).toNat + 1 - 16) = (hD v n k - 1).toNat + 1 by omega] at this
      exact this
    have f2 : fb 15 ≤ fb ((hD v n k - 1).toNat) := by
      have := fb_le (m := 15) ((hD v n k - 1).toNat - 15)
      rw [show 15 + ((hD v n k - 1).toNat - 15) = (hD v n k - 1).toNat by omega] at this
      exact this
    have c1 : fb 16 = 987 := by decide
    have c2 : fb 15 = 610 := by decide
    have m1 := Int.mul_le_mul f1 w.1 (by omega) (by omega)
    have m2 := Int.mul_le_mul f2 w.2 (by omega) (by omega)
    rw [c1] at m1
    rw [c2] at m2
    omega
/-- a joined node weighs at most its share, twice -/
theorem hW_sh (h : VR v n) {t : Nat} (ht1 : (t : Int) + 1 < n) : (n - t) * hW v n (n + t) ≤ 2 * sm v 0 n := by
  have hI := h.HI (u := 2 * t + 2) (by omega)
  have hS := (SC_all h (2 * t + 2) (by omega)).1
  have hI1 := h.HI (u := 2 * t + 1) (by omega)
  have hor := tn_or (by omega) hI1
  have e1 := ht_i (v := v) (n := n) (2 * t + 1)
  have a1 := hI1.1
  have hw := hW_in h ht1
  have hm := (h.HI (u := 2 * t + 2) (by omega)).2.2.2.2.2.2.2.1 (2 * t) (by omega)
  have e6 := hI.2.2.2.2.2.1 t (by omega)
  have hjx : n + ((2 * t + 2 : Nat) : Int) - (ht v n (2 * t + 2)).1 ≤ n + t := by
    have e2 : (ht v n (2 * t + 2)).1 = (ht v n (2 * t + 1 + 1)).1 := rfl
    rcases hor with ⟨e, a, b⟩ | ⟨e, a, b, c⟩
    · rw [e, if_pos a] at e1; omega
    · rw [e, if_neg (by omega)] at e1; omega
  obtain ⟨b1, b2, b3, -, b5, -⟩ := hI
  obtain ⟨c1, c2⟩ := b5 (2 * t + 1) rfl
  unfold SI at hS
  obtain ⟨i, hi⟩ : ∃ i, i = (ht v n (2 * t + 2)).1 := ⟨_, rfl⟩
  obtain ⟨W, hW0⟩ : ∃ W, W = (ht v n (2 * t + 2)).2 := ⟨_, rfl⟩
  obtain ⟨j, hj⟩ : ∃ j, j = n + ((2 * t + 2 : Nat) : Int) - i := ⟨_, rfl⟩
  obtain ⟨α, hα⟩ : ∃ α, α = tw v n (2 * t) := ⟨_, rfl⟩
  obtain ⟨β, hβ⟩ : ∃ β, β = tw v n (2 * t + 1) := ⟨_, rfl⟩
  rw [← hi] at b1 c1
  rw [← hi, ← hj, ← hW0] at c2 hS
  rw [← hi, ← hj] at hjx
  rw [← hW0] at b2 b3 c1
  rw [← hW0, ← hα, ← hβ] at e6
  rw [← hα, ← hβ] at hw hm
  rw [← hβ] at c1 c2
  -- those that are left
  have s1 : ∀ d : Nat, i + d < n → β ≤ W (i + d) := by
    intro d
    induction d with
    | zero => intro hd; rw [show i + ((0 : Nat) : Int) = i by omega]; exact c1 (by omega)
    | succ d ih =>
      intro hd
      have := ih (by omega)
      rw [b2 _ (by omega)] at this
      rw [b2 _ hd]
      have := h.2.2 (i + d) (by omega) (by omega)
      rw [show i + ((d + 1 : Nat) : Int) = i + d + 1 by omega]; omega
  have s2 : ∀ d : Nat, j + d < n + t → β ≤ W (j + d) := by
    intro d
    induction d with
    | zero => intro hd; rw [show j + ((0 : Nat) : Int) = j by omega]; exact c2 (by omega)
    | succ d ih =>
      intro hd
      have := ih (by omega)
      have := b3 (j + d) (by omega) (by omega)
      rw [show j + ((d + 1 : Nat) : Int) = j + d + 1 by omega]; omega
  have g1 := sm_ge (f := W) (b := β) (lo := i) (hi := n) (by omega) (fun k x y => by have := s1 (k - i).toNat (by omega); rw [show i + ((k - i).toNat : Int) = k by omega] at this; exact this)
  have g2 := sm_ge (f := W) (b := β) (lo := j) (hi := n + t) hjx (fun k x y => by have := s2 (k - j).toNat (by omega); rw [show j + ((k - j).toNat : Int) = k by omega] at this; exact this)
  rw [show n + ((2 * t + 2 : Nat) : Int) / 2 + ((2 * t + 2 : Nat) : Int) % 2 = n + t + 1 by omega, sm_r hjx, e6] at hS
  have g3 : (n - i) * β + (n + t - j) * β = (n - t - 2) * β := by rw [← Int.add_mul, show n - i + (n + t - j) = n - t - 2 by omega]
  have g4 : (n - t - 2) * α ≤ (n - t - 2) * β := Int.mul_le_mul_of_nonneg_left hm (by omega)
  rw [hw, show n - (t : Int) = n - t - 2 + 2 by omega, Int.add_mul, Int.mul_add]
  omega
def rr : Nat → Int
  | 0 => 0
  | k + 1 => rr k + (if k = 0 then 0 else 2097152 / ((k : Int) + 1) + 1)
theorem rr_le : ∀ k : Nat, k ≤ 256 → rr k ≤ 10747000 := by decide +kernel
theorem hcost_t (h : VR v n) : ∀ t : Nat, (t : Int) + 1 ≤ n → 1048576 * sm (hW v n) n (n + t) ≤ (rr n.toNat - rr (n - t).toNat) * sm v 0 n
  | 0, _ => by
    rw [show n + ((0 : Nat) : Int) = n by omega, show (n - ((0 : Nat) : Int)).toNat = n.toNat by omega, sm_e (Int.le_refl _), Int.sub_self, Int.zero_mul]; omega
  | t + 1, ht => by
    have ih := hcost_t h t (by omega)
    have hsh := hW_sh h (t := t) (by omega)
    have h0 : 0 ≤ sm v 0 n := by
      have := sm_ge (f := v) (b := 0) (lo := 0) (hi := n) (by omega) (fun k a b => by have := h.2.1 k a b; omega)
      rw [Int.mul_zero] at this; exact this
    obtain ⟨S, hS⟩ : ∃ S, S = sm v 0 n := ⟨_, rfl⟩
    obtain ⟨k, hk⟩ : ∃ k, k = n - (t : Int) := ⟨_, rfl⟩
    obtain ⟨s, hs⟩ : ∃ s, s = hW v n (n + t) := ⟨_, rfl⟩
    rw [← hS] at ih hsh h0 ⊢
    rw [← hk] at ih
    rw [← hk, ← hs] at hsh
    have er : rr k.toNat = rr (n - ((t + 1 : Nat) : Int)).toNat + (2097152 / k + 1) := by
      rw [show k.toNat = (n - ((t + 1 : Nat) : Int)).toNat + 1 by omega]
      show rr _ + (if (n - ((t + 1 : Nat) : Int)).toNat = 0 then 0 else 2097152 / (((n - ((t + 1 : Nat) : Int)).toNat : Int) + 1) + 1) = _
      rw [if_neg (by omega), show ((n - ((t + 1 : Nat) : Int)).toNat : Int) + 1 = k by omega]
    have d1 : 2097152 ≤ k * (2097152 / k + 1) := by
      have a := Int.mul_ediv_add_emod 2097152 k
      have b := Int.emod_lt_of_pos 2097152 (show 0 < k by omega)
      rw [Int.mul_add, Int.mul_one]; omega
    have d2 : 1048576 * s ≤ (2097152 / k + 1) * S := by
      refine Int.le_of_mul_le_mul_left (a := k) ?_ (by omega)
      have x1 : k * (1048576 * s) = 1048576 * (k * s) := by rw [← Int.mul_assoc, Int.mul_comm k 1048576, Int.mul_assoc]
      have x2 := Int.mul_le_mul_of_nonneg_right d1 h0
      rw [x1, ← Int.mul_assoc k]; omega
    rw [show n + ((t + 1 : Nat) : Int) = n + t + 1 by omega, sm_r (by omega), ← hs, Int.mul_add]
    rw [er, Int.sub_mul, Int.add_mul] at ih
    rw [Int.sub_mul]
    omega
theorem hcost_le (h : VR v n) (hn : n ≤ 256) : 1048576 * sm (fun k => v k * hD v n k) 0 n ≤ 10747000 * sm v 0 n := by
  have h2 := h.1
  have q := hcost_t h (n - 1).toNat (by omega)
  have h0 : 0 ≤ sm v 0 n := by
    have := sm_ge (f := v) (b := 0) (lo := 0) (hi := n) (by omega) (fun k a b => by have := h.2.1 k a b; omega)
    rw [Int.mul_zero] at this; exact this
  rw [show n + ((n - 1).toNat : Int) = 2 * n - 1 by omega, show (n - ((n - 1).toNat : Int)).toNat = 1 by omega, show rr 1 = 0 from rfl, ← hcost h] at q
  have q2 := Int.mul_le_mul_of_nonneg_right (rr_le n.toNat (by omega)) h0
  rw [Int.sub_mul, Int.zero_mul] at q
  omega
end Huff4
