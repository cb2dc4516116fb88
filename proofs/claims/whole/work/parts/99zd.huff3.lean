/-! pack: sums of weights; no code is longer than 15; what all signs cost -/
section Huff3
variable {v : Int → Int} {n : Int}
def smN (f : Int → Int) : Nat → Int → Int
  | 0, _ => 0
  | m + 1, lo => f lo + smN f m (lo + 1)
def sm (f : Int → Int) (lo hi : Int) : Int := smN f (hi - lo).toNat lo
theorem sm_e {f : Int → Int} {lo hi : Int} (h : hi ≤ lo) : sm f lo hi = 0 := by unfold sm; rw [show (hi - lo).toNat = 0 by omega]; rfl
theorem sm_l {f : Int → Int} {lo hi : Int} (h : lo < hi) : sm f lo hi = f lo + sm f (lo + 1) hi := by
  unfold sm; rw [show (hi - lo).toNat = (hi - (lo + 1)).toNat + 1 by omega]; rfl
theorem smN_r (f : Int → Int) : ∀ (m : Nat) (lo : Int), smN f (m + 1) lo = smN f m lo + f (lo + m)
  | 0, lo => by show f lo + 0 = 0 + f (lo + ((0 : Nat) : Int)); rw [show lo + ((0 : Nat) : Int) = lo by omega]; omega
  | m + 1, lo => by
    show f lo + smN f (m + 1) (lo + 1) = f lo + smN f m (lo + 1) + f (lo + ((m + 1 : Nat) : Int))
    rw [smN_r f m (lo + 1), show lo + 1 + (m : Int) = lo + ((m + 1 : Nat) : Int) by omega]; omega
theorem sm_r {f : Int → Int} {lo hi : Int} (h : lo ≤ hi) : sm f lo (hi + 1) = sm f lo hi + f hi := by
  unfold sm; rw [show (hi + 1 - lo).toNat = (hi - lo).toNat + 1 by omega, smN_r, show lo + ((hi - lo).toNat : Int) = hi by omega]
theorem smN_c {f g : Int → Int} : ∀ (m : Nat) (lo : Int), (∀ k, lo ≤ k → k < lo + m → f k = g k) → smN f m lo = smN g m lo
  | 0, _, _ => rfl
  | m + 1, lo, h => by show f lo + smN f m (lo + 1) = g lo + smN g m (lo + 1); rw [h lo (by omega) (by omega), smN_c m (lo + 1) (fun k a b => h k (by omega) (by omega))]
theorem sm_c {f g : Int → Int} {lo hi : Int} (h : ∀ k, lo ≤ k → k < hi → f k = g k) : sm f lo hi = sm g lo hi := smN_c _ _ (fun k a b => h k a (by omega))
theorem smN_ge {f : Int → Int} {b : Int} : ∀ (m : Nat) (lo : Int), (∀ k, lo ≤ k → k < lo + m → b ≤ f k) → m * b ≤ smN f m lo
  | 0, _, _ => by show ((0 : Nat) : Int) * b ≤ 0; rw [show (((0 : Nat) : Int)) = 0 from rfl, Int.zero_mul]; omega
  | m + 1, lo, h => by
    have a := smN_ge m (lo + 1) (fun k a b => h k (by omega) (by omega))
    have c := h lo (by omega) (by omega)
    show ((m + 1 : Nat) : Int) * b ≤ f lo + smN f m (lo + 1)
    rw [show ((m + 1 : Nat) : Int) = (m : Int) + 1 by omega, Int.add_mul, Int.one_mul]; omega
theorem sm_ge {f : Int → Int} {b lo hi : Int} (hl : lo ≤ hi) (h : ∀ k, lo ≤ k → k < hi → b ≤ f k) : (hi - lo) * b ≤ sm f lo hi := by
  have := smN_ge (f := f) (b := b) (hi - lo).toNat lo (fun k a c => h k a (by omega))
  rw [show ((hi - lo).toNat : Int) = hi - lo by omega] at this
  exact this
/-- a step: what is taken goes away, and comes to the node that is made -/
theorem sm_step {f f' : Int → Int} {i j x e : Int} {τ σ : Int} (hx : f' x = (if e = 0 then 0 else f x) + σ) (hn : ∀ k, k ≠ x → f' k = f k) (hj : n ≤ j) (hjx : j ≤ x) (he : e = 0 ∨ e = 1) (hi : 0 ≤ i) (hin : i ≤ n) (ht : (i < n ∧ τ = f i) ∨ (j < x ∧ τ = f j ∧ ¬ i < n) ∨ (j < x ∧ τ = f j)) : (i < n ∧ τ = f i → sm f' (i + 1) n + sm f' j (x + 1) = sm f i n + sm f j (x + e) - τ + σ) ∧ (j < x ∧ τ = f j → sm f' i n + sm f' (j + 1) (x + 1) = sm f i n + sm f j (x + e) - τ + σ) := by
  have a1 : ∀ lo, sm f' lo n = sm f lo n := fun lo => sm_c (fun k p q => hn k (by omega))
  have a2 : ∀ lo, lo ≤ x → sm f' lo (x + 1) = sm f lo x + f' x := fun lo hlo => by rw [sm_r hlo, sm_c (fun k p q => hn k (by omega))]
  have a3 : ∀ lo, lo ≤ x → sm f lo (x + e) = sm f lo x + (if e = 0 then 0 else f x) := fun lo hlo => by
    rcases he with h | h
    · rw [h, show x + 0 = x by omega, if_pos rfl]; omega
    · rw [h, sm_r hlo, if_neg (by omega)]
  refine ⟨fun y => ?_, fun y => ?_⟩
  · rw [a1, a2 j hjx, a3 j hjx, hx, sm_l y.1, y.2]; omega
  · rw [a1, a2 (j + 1) (by omega), a3 j hjx, hx, sm_l y.1, y.2]; omega
/-- the weight of all that are open -/
def SI (v : Int → Int) (n : Int) (u : Nat) : Prop := sm (ht v n u).2 (ht v n u).1 n + sm (ht v n u).2 (n + u - (ht v n u).1) (n + (u : Int) / 2 + (u : Int) % 2) = sm v 0 n
/-- .. and with what is below each -/
def CI (v : Int → Int) (n : Int) (u : Nat) : Prop := sm (fun k => (ht v n u).2 k * hD v n k) (ht v n u).1 n + sm (fun k => (ht v n u).2 k * hD v n k) (n + u - (ht v n u).1) (n + (u : Int) / 2 + (u : Int) % 2) + sm (ht v n u).2 n (n + (u : Int) / 2 + (u : Int) % 2) = sm (fun k => v k * hD v n k) 0 n
theorem tn_P (h : VR v n) {u : Nat} (hu : (u : Int) < 2 * n - 2) : 0 ≤ tn v n u ∧ tn v n u < 2 * n - 2 ∧ hP v n (tn v n u) = n + (u : Int) / 2 := by
  have key : ∀ d : Nat, (u : Int) + 1 + d + 2 ≤ 2 * n → hpr v n (u + 1 + d) (tn v n u) = n + (u : Int) / 2 ∧ ((0 ≤ tn v n u ∧ tn v n u < (ht v n (u + 1 + d)).1) ∨ (n ≤ tn v n u ∧ tn v n u < n + ((u + 1 + d : Nat) : Int) - (ht v n (u + 1 + d)).1)) := by
    intro d
    induction d with
    | zero =>
      intro hd
      have hI := h.HI (u := u) (by omega)
      have hor := tn_or (by omega) hI
      have h1 := hI.1
      have e1 := ht_i (v := v) (n := n) u
      refine ⟨fu_s, ?_⟩
      show (0 ≤ tn v n u ∧ tn v n u < (ht v n (u + 1)).1) ∨ (n ≤ tn v n u ∧ tn v n u < n + ((u + 1 : Nat) : Int) - (ht v n (u + 1)).1)
      rcases hor with ⟨e, a, b⟩ | ⟨e, a, b, c⟩
      · rw [e, if_pos a] at e1; omega
      · rw [e, if_neg (by omega)] at e1; omega
    | succ d ih =>
      intro hd
      obtain ⟨i1, i2⟩ := ih (by omega)
      have hI := h.HI (u := u + 1 + d) (by omega)
      have hor := tn_or (by omega) hI
      have h1 := hI.1
      have e1 := ht_i (v := v) (n := n) (u + 1 + d)
      have ne : tn v n u ≠ tn v n (u + 1 + d) := by
        rcases hor with ⟨e, a, b⟩ | ⟨e, a, b, c⟩ <;> omega
      refine ⟨?_, ?_⟩
      · show fu (hpr v n (u + 1 + d)) (tn v n (u + 1 + d)) _ (tn v n u) = _
        rw [fu_n ne]; exact i1
      · show (0 ≤ tn v n u ∧ tn v n u < (ht v n (u + 1 + d + 1)).1) ∨ (n ≤ tn v n u ∧ tn v n u < n + ((u + 1 + d + 1 : Nat) : Int) - (ht v n (u + 1 + d + 1)).1)
        rcases hor with ⟨e, a, b⟩ | ⟨e, a, b, c⟩
        · rw [e, if_pos a] at e1; omega
        · rw [e, if_neg (by omega)] at e1; omega
  have q := key ((2 * n - 2).toNat - (u + 1)) (by omega)
  rw [show u + 1 + ((2 * n - 2).toNat - (u + 1)) = (2 * n - 2).toNat by omega] at q
  have e := ht_end h
  rw [e] at q
  exact ⟨by omega, by omega, q.1⟩
theorem SC_all (h : VR v n) : ∀ u : Nat, (u : Int) + 2 ≤ 2 * n → SI v n u ∧ CI v n u
  | 0, _ => by
    have e : ∀ f : Int → Int, sm f (n + ((0 : Nat) : Int) - 0) (n + ((0 : Nat) : Int) / 2 + ((0 : Nat) : Int) % 2) = 0 := fun f => sm_e (by omega)
    have e2 : sm v n (n + ((0 : Nat) : Int) / 2 + ((0 : Nat) : Int) % 2) = 0 := sm_e (by omega)
    refine ⟨?_, ?_⟩
    · show sm v 0 n + sm v (n + ((0 : Nat) : Int) - 0) (n + ((0 : Nat) : Int) / 2 + ((0 : Nat) : Int) % 2) = _
      rw [e]; omega
    · show sm (fun k => v k * hD v n k) 0 n + sm (fun k => v k * hD v n k) (n + ((0 : Nat) : Int) - 0) (n + ((0 : Nat) : Int) / 2 + ((0 : Nat) : Int) % 2) + sm v n (n + ((0 : Nat) : Int) / 2 + ((0 : Nat) : Int) % 2) = _
      rw [e, e2]; omega
  | u + 1, hu => by
    obtain ⟨a1, a2⟩ := SC_all h u (by omega)
    have hI := h.HI (u := u) (by omega)
    have hor := tn_or (by omega) hI
    have h1 := hI.1
    have htp := tn_P h (u := u) (by omega)
    have hds := hD_s h htp.1 htp.2.1
    rw [htp.2.2] at hds
    have e1 := ht_i (v := v) (n := n) u
    have eW := ht_W (v := v) (n := n) u
    have et : tw v n u = (ht v n u).2 (tn v n u) := rfl
    unfold SI at a1 ⊢
    unfold CI at a2 ⊢
    rw [eW]
    obtain ⟨i, hi⟩ : ∃ i, i = (ht v n u).1 := ⟨_, rfl⟩
    obtain ⟨i', hi'⟩ : ∃ i', i' = (ht v n (u + 1)).1 := ⟨_, rfl⟩
    obtain ⟨W, hW⟩ : ∃ W, W = (ht v n u).2 := ⟨_, rfl⟩
    obtain ⟨x, hx⟩ : ∃ x, x = n + (u : Int) / 2 := ⟨_, rfl⟩
    obtain ⟨j, hj⟩ : ∃ j, j = n + (u : Int) - i := ⟨_, rfl⟩
    obtain ⟨τ, hτ⟩ : ∃ τ, τ = tw v n u := ⟨_, rfl⟩
    obtain ⟨c, hc⟩ : ∃ c, c = tn v n u := ⟨_, rfl⟩
    rw [← hi, ← hW, ← hx, ← hj] at a1 a2
    rw [← hi, ← hW, ← hx, ← hj, ← hc] at hor
    rw [← hi', ← hi, ← hc] at e1
    rw [← hi] at h1
    rw [← hW, ← hc, ← hτ] at et
    rw [← hx, ← hc] at hds
    rw [← hx, ← hW, ← hτ, ← hi']
    obtain ⟨W', hW'⟩ : ∃ W', W' = fu W x ((if (u : Int) % 2 = 0 then 0 else W x) + τ) := ⟨_, rfl⟩
    rw [← hW']
    have w1 : W' x = (if (u : Int) % 2 = 0 then 0 else W x) + τ := by rw [hW']; exact fu_s
    have w2 : ∀ k, k ≠ x → W' k = W k := fun k hk => by rw [hW']; exact fu_n hk
    have hx' : n + ((u + 1 : Nat) : Int) / 2 + ((u + 1 : Nat) : Int) % 2 = x + 1 := by omega
    rw [hx']
    have hcost : sm W' n (x + 1) = sm W n (x + (u : Int) % 2) + τ := by
      rw [sm_r (by omega), w1, sm_c (g := W) (fun k p q => w2 k (by omega))]
      by_cases z : (u : Int) % 2 = 0
      · rw [z, if_pos rfl, show x + 0 = x by omega]; omega
      · rw [if_neg z, show (u : Int) % 2 = 1 by omega, sm_r (by omega)]; omega
    have d1 : W' x * hD v n x = (if (u : Int) % 2 = 0 then 0 else W x * hD v n x) + τ * hD v n x := by
      rw [w1, Int.add_mul]
      by_cases z : (u : Int) % 2 = 0
      · rw [if_pos z, if_pos z, Int.zero_mul]
      · rw [if_neg z, if_neg z]
    have d2 : ∀ k, k ≠ x → W' k * hD v n k = W k * hD v n k := fun k hk => by rw [w2 k hk]
    have d3 : W c * hD v n c = τ * hD v n x + τ := by rw [hds, Int.mul_add, Int.mul_one, et]
    rcases hor with ⟨e, a, b⟩ | ⟨e, a, b, d⟩
    · have ei : i' = i + 1 := by rw [e1, e, if_pos a]
      have q1 := (sm_step (n := n) (f := W) (f' := W') (i := i) (j := j) (x := x) (e := (u : Int) % 2) (τ := τ) (σ := τ) w1 w2 (by omega) (by omega) (by omega) (by omega) (by omega) (Or.inl ⟨a, by rw [et, e]⟩)).1 ⟨a, by rw [et, e]⟩
      have q2 := (sm_step (n := n) (f := fun k => W k * hD v n k) (f' := fun k => W' k * hD v n k) (i := i) (j := j) (x := x) (e := (u : Int) % 2) (τ := W i * hD v n i) (σ := τ * hD v n x) d1 d2 (by omega) (by omega) (by omega) (by omega) (by omega) (Or.inl ⟨a, rfl⟩)).1 ⟨a, rfl⟩
      rw [e] at d3
      rw [ei, show n + ((u + 1 : Nat) : Int) - (i + 1) = j by omega]
      exact ⟨by rw [q1]; omega, by rw [q2, hcost]; omega⟩
    · have ei : i' = i := by rw [e1, e, if_neg (by omega)]
      have q1 := (sm_step (n := n) (f := W) (f' := W') (i := i) (j := j) (x := x) (e := (u : Int) % 2) (τ := τ) (σ := τ) w1 w2 (by omega) (by omega) (by omega) (by omega) (by omega) (Or.inr (Or.inr ⟨b, by rw [et, e]⟩))).2 ⟨b, by rw [et, e]⟩
      have q2 := (sm_step (n := n) (f := fun k => W k * hD v n k) (f' := fun k => W' k * hD v n k) (i := i) (j := j) (x := x) (e := (u : Int) % 2) (τ := W j * hD v n j) (σ := τ * hD v n x) d1 d2 (by omega) (by omega) (by omega) (by omega) (by omega) (Or.inr (Or.inr ⟨b, rfl⟩))).2 ⟨b, rfl⟩
      rw [e] at d3
      rw [ei, show n + ((u + 1 : Nat) : Int) - i = j + 1 by omega]
      exact ⟨by rw [q1]; omega, by rw [q2, hcost]; omega⟩
/-- the last node weighs all -/
theorem hW_root (h : VR v n) : hW v n (2 * n - 2) = sm v 0 n := by
  have h2 := h.1
  have q := (SC_all h (2 * n - 2).toNat (by omega)).1
  unfold SI at q
  rw [ht_end h, sm_e (by omega), show n + ((2 * n - 2).toNat : Int) - n = 2 * n - 2 by omega, show n + ((2 * n - 2).toNat : Int) / 2 + ((2 * n - 2).toNat : Int) % 2 = 2 * n - 2 + 1 by omega, sm_l (by omega), sm_e (by omega)] at q
  unfold hW
  omega
/-- what all signs cost is what the joined ones weigh -/
theorem hcost (h : VR v n) : sm (fun k => v k * hD v n k) 0 n = sm (hW v n) n (2 * n - 1) := by
  have h2 := h.1
  have q := (SC_all h (2 * n - 2).toNat (by omega)).2
  unfold CI at q
  rw [ht_end h, sm_e (by omega), show n + ((2 * n - 2).toNat : Int) - n = 2 * n - 2 by omega, show n + ((2 * n - 2).toNat : Int) / 2 + ((2 * n - 2).toNat : Int) % 2 = 2 * n - 2 + 1 by omega, sm_l (by omega), sm_e (by omega), hD_0 h (by omega), Int.mul_zero] at q
  rw [← q, show 2 * n - 2 + 1 = 2 * n - 1 by omega]
  unfold hW
  omega
end Huff3
