/-! pack: codes are made of weights, two rows; all of it pure -/
section Huff
def fu (f : Int → Int) (k x : Int) : Int → Int := fun j => if j = k then x else f j
theorem fu_s {f : Int → Int} {k x : Int} : fu f k x k = x := if_pos rfl
theorem fu_n {f : Int → Int} {k x j : Int} (h : j ≠ k) : fu f k x j = f j := if_neg h
/-- the node that is taken next: u are taken, q.1 of them signs -/
def htk (n : Int) (u : Nat) (q : Int × (Int → Int)) : Int := if n + (u : Int) / 2 ≤ n + u - q.1 ∨ (q.1 < n ∧ q.2 q.1 ≤ q.2 (n + u - q.1)) then q.1 else n + u - q.1
def ht (v : Int → Int) (n : Int) : Nat → Int × (Int → Int)
  | 0 => (0, v)
  | u + 1 => (if htk n u (ht v n u) < n then (ht v n u).1 + 1 else (ht v n u).1, fu (ht v n u).2 (n + (u : Int) / 2) ((if (u : Int) % 2 = 0 then 0 else (ht v n u).2 (n + (u : Int) / 2)) + (ht v n u).2 (htk n u (ht v n u))))
def tn (v : Int → Int) (n : Int) (u : Nat) : Int := htk n u (ht v n u)
def tw (v : Int → Int) (n : Int) (u : Nat) : Int := (ht v n u).2 (tn v n u)
def hpr (v : Int → Int) (n : Int) : Nat → Int → Int
  | 0 => fun _ => 0
  | u + 1 => fu (hpr v n u) (tn v n u) (n + (u : Int) / 2)
variable {v : Int → Int} {n : Int}
theorem ht_i (u : Nat) : (ht v n (u + 1)).1 = if tn v n u < n then (ht v n u).1 + 1 else (ht v n u).1 := rfl
theorem ht_W (u : Nat) : (ht v n (u + 1)).2 = fu (ht v n u).2 (n + (u : Int) / 2) ((if (u : Int) % 2 = 0 then 0 else (ht v n u).2 (n + (u : Int) / 2)) + tw v n u) := rfl
/-- what holds when u are taken -/
def HI (v : Int → Int) (n : Int) (u : Nat) : Prop :=
  (0 ≤ (ht v n u).1 ∧ (ht v n u).1 ≤ n ∧ (ht v n u).1 ≤ u ∧ ((u : Int) + 1) / 2 ≤ (ht v n u).1) ∧
  (∀ k, k < n → (ht v n u).2 k = v k) ∧
  (∀ k, n ≤ k → k + 1 < n + (u : Int) / 2 → (ht v n u).2 k ≤ (ht v n u).2 (k + 1)) ∧
  (∀ k, n ≤ k → k < n + ((u : Int) + 1) / 2 → 1 ≤ (ht v n u).2 k) ∧
  (∀ z : Nat, z + 1 = u → ((ht v n u).1 < n → tw v n z ≤ (ht v n u).2 (ht v n u).1) ∧ (n + u - (ht v n u).1 < n + (u : Int) / 2 → tw v n z ≤ (ht v n u).2 (n + u - (ht v n u).1))) ∧
  (∀ t : Nat, 2 * t + 2 ≤ u → (ht v n u).2 (n + t) = tw v n (2 * t) + tw v n (2 * t + 1)) ∧
  (∀ z : Nat, z + 1 = u → (z : Int) % 2 = 0 → (ht v n u).2 (n + (z : Int) / 2) = tw v n z) ∧
  (∀ z : Nat, z + 2 ≤ u → tw v n z ≤ tw v n (z + 1)) ∧
  (∀ z : Nat, z + 1 ≤ u → 1 ≤ tw v n z)
/-- the node taken is one of the two, the lesser -/
theorem tn_or {u : Nat} (hu : (u : Int) + 2 < 2 * n) (h : HI v n u) : (tn v n u = (ht v n u).1 ∧ (ht v n u).1 < n ∧ (n + u - (ht v n u).1 < n + (u : Int) / 2 → (ht v n u).2 (ht v n u).1 ≤ (ht v n u).2 (n + u - (ht v n u).1))) ∨ (tn v n u = n + u - (ht v n u).1 ∧ n ≤ n + u - (ht v n u).1 ∧ n + u - (ht v n u).1 < n + (u : Int) / 2 ∧ ((ht v n u).1 < n → (ht v n u).2 (n + u - (ht v n u).1) < (ht v n u).2 (ht v n u).1)) := by
  obtain ⟨h1, -⟩ := h
  unfold tn htk
  by_cases z : n + (u : Int) / 2 ≤ n + u - (ht v n u).1
  · rw [if_pos (Or.inl z)]
    exact Or.inl ⟨rfl, by omega, fun y => by omega⟩
  · by_cases z2 : (ht v n u).1 < n ∧ (ht v n u).2 (ht v n u).1 ≤ (ht v n u).2 (n + u - (ht v n u).1)
    · rw [if_pos (Or.inr z2)]
      exact Or.inl ⟨rfl, z2.1, fun _ => z2.2⟩
    · rw [if_neg (fun y => y.elim z z2)]
      exact Or.inr ⟨rfl, by omega, by omega, fun y => by have : ¬ (ht v n u).2 (ht v n u).1 ≤ (ht v n u).2 (n + u - (ht v n u).1) := fun w => z2 ⟨y, w⟩
                                                         omega⟩
theorem HI_s (hv : ∀ k, 0 ≤ k → k < n → 1 ≤ v k) (hs : ∀ k, 0 ≤ k → k + 1 < n → v k ≤ v (k + 1)) {u : Nat} (hu : (u : Int) + 2 < 2 * n) (h : HI v n u) : HI v n (u + 1) := by
  have hor := tn_or hu h
  obtain ⟨h1, h2, h3, h4, h5, h6, h7, h8, h9⟩ := h
  obtain ⟨i, hi⟩ : ∃ i, i = (ht v n u).1 := ⟨_, rfl⟩
  obtain ⟨W, hW⟩ : ∃ W, W = (ht v n u).2 := ⟨_, rfl⟩
  rw [← hi, ← hW] at hor
  rw [← hi] at h1 h5
  rw [← hW] at h2 h3 h4 h5 h6 h7
  have et : tw v n u = W (tn v n u) := by rw [hW]; rfl
  obtain ⟨τ, hτ⟩ : ∃ τ, τ = tw v n u := ⟨_, rfl⟩
  -- what is taken weighs something, and no less than the one before
  have t1 : 1 ≤ τ := by
    rw [hτ, et]
    rcases hor with ⟨e, a, b⟩ | ⟨e, a, b, c⟩
    · rw [e, h2 _ a]; exact hv _ h1.1 a
    · rw [e]; exact h4 _ a (by omega)
  have t2 : ∀ z : Nat, z + 1 = u → tw v n z ≤ τ := fun z hz => by
    have q := h5 z hz
    rw [hτ, et]
    rcases hor with ⟨e, a, b⟩ | ⟨e, a, b, c⟩
    · rw [e]; exact q.1 a
    · rw [e]; exact q.2 b
  -- the new weights
  obtain ⟨i', hi'⟩ : ∃ i', i' = (ht v n (u + 1)).1 := ⟨_, rfl⟩
  obtain ⟨W', hW'⟩ : ∃ W', W' = (ht v n (u + 1)).2 := ⟨_, rfl⟩
  have ei : i' = if tn v n u < n then i + 1 else i := by rw [hi', ht_i, hi]
  have eW : W' = fu W (n + (u : Int) / 2) ((if (u : Int) % 2 = 0 then 0 else W (n + (u : Int) / 2)) + τ) := by rw [hW', ht_W, hW, hτ]
  have eWn : ∀ k, k ≠ n + (u : Int) / 2 → W' k = W k := fun k hk => by rw [eW]; exact fu_n hk
  have eWs : W' (n + (u : Int) / 2) = (if (u : Int) % 2 = 0 then 0 else W (n + (u : Int) / 2)) + τ := by rw [eW]; exact fu_s
  have eW1 : (u : Int) % 2 = 0 → W' (n + (u : Int) / 2) = τ := fun z => by rw [eWs, if_pos z]; omega
  have eW2 : ∀ z : Nat, z + 1 = u → (z : Int) % 2 = 0 → W' (n + (u : Int) / 2) = tw v n z + τ := fun z hz hz2 => by
    rw [eWs, if_neg (by omega), show (u : Int) / 2 = (z : Int) / 2 by omega, h7 z hz hz2]
  have t3 : ∀ z : Nat, z + 1 ≤ u + 1 → 1 ≤ tw v n z := fun z hz => by
    by_cases c : z = u
    · rw [c, ← hτ]; exact t1
    · exact h9 z (by omega)
  have t4 : ∀ z : Nat, z + 2 ≤ u + 1 → tw v n z ≤ tw v n (z + 1) := fun z hz => by
    by_cases c : z + 1 = u
    · rw [c, ← hτ]; exact t2 z c
    · exact h8 z (by omega)
  have t6 : ∀ t : Nat, 2 * t + 2 ≤ u + 1 → W' (n + t) = tw v n (2 * t) + tw v n (2 * t + 1) := fun t ht => by
    by_cases c : 2 * t + 1 = u
    · have := eW2 (2 * t) c (by omega)
      rw [show (u : Int) / 2 = t by omega, hτ, ← c] at this
      exact this
    · rw [eWn _ (by omega)]; exact h6 t (by omega)
  have t3' : ∀ k, n ≤ k → k + 1 < n + ((u : Int) + 1) / 2 → W' k ≤ W' (k + 1) := fun k a b => by
    have e1 := t6 (k - n).toNat (by omega)
    have e2 := t6 ((k - n).toNat + 1) (by omega)
    rw [show n + ((k - n).toNat : Int) = k by omega] at e1
    rw [show n + (((k - n).toNat + 1 : Nat) : Int) = k + 1 by omega] at e2
    rw [e1, e2]
    have a1 := t4 (2 * (k - n).toNat) (by omega)
    have a2 : tw v n (2 * (k - n).toNat + 1) ≤ tw v n (2 * (k - n).toNat + 2) := t4 (2 * (k - n).toNat + 1) (by omega)
    have a3 := t4 (2 * (k - n).toNat + 2) (by omega)
    rw [show 2 * ((k - n).toNat + 1) = 2 * (k - n).toNat + 2 by omega]
    omega
  have t4' : ∀ k, n ≤ k → k < n + ((u : Int) + 1 + 1) / 2 → 1 ≤ W' k := fun k a b => by
    by_cases c : k = n + (u : Int) / 2
    · rw [c, eWs]
      split
      · omega
      · have := h4 (n + (u : Int) / 2) (by omega) (by omega); omega
    · rw [eWn k c]; exact h4 k a (by omega)
  unfold HI
  rw [← hi', ← hW']
  refine ⟨?_, fun k hk => by rw [eWn k (by omega)]; exact h2 k hk, t3', t4', fun z hz => ?_, t6, fun z hz hz2 => ?_, t4, t3⟩
  · rcases hor with ⟨e, a, b⟩ | ⟨e, a, b, c⟩
    · rw [ei, e, if_pos a]; omega
    · rw [ei, e, if_neg (by omega)]; omega
  · have : z = u := by omega
    rw [this, ← hτ]
    have hlast : ∀ k, k = n + (u : Int) / 2 → (u : Int) % 2 ≠ 0 → τ ≤ W' k := fun k hk h0 => by
      rw [hk, eWs, if_neg h0]
      have := h4 (n + (u : Int) / 2) (by omega) (by omega)
      omega
    rcases hor with ⟨e, a, b⟩ | ⟨e, a, b, c⟩
    · have e1 : i' = i + 1 := by rw [ei, e, if_pos a]
      rw [e1]
      refine ⟨fun y => ?_, fun y => ?_⟩
      · rw [eWn _ (by omega), hτ, et, e, h2 _ a, h2 _ y]; exact hs i h1.1 y
      · by_cases c : n + (u : Int) - i = n + (u : Int) / 2
        · refine hlast _ (by omega) (by omega)
        · rw [eWn _ (by omega), hτ, et, e, show n + ((u + 1 : Nat) : Int) - (i + 1) = n + u - i by omega]; exact b (by omega)
    · have e1 : i' = i := by rw [ei, e, if_neg (by omega)]
      rw [e1]
      refine ⟨fun y => ?_, fun y => ?_⟩
      · rw [eWn _ (by omega), hτ, et, e]; have := c y; omega
      · by_cases d : n + ((u + 1 : Nat) : Int) - i = n + (u : Int) / 2
        · refine hlast _ d (by omega)
        · rw [hτ, et, e, ← eWn (n + u - i) (by omega), show n + ((u + 1 : Nat) : Int) - i = n + u - i + 1 by omega]
          exact t3' _ a (by omega)
  · have : z = u := by omega
    rw [this, ← hτ]; exact eW1 (by omega)
theorem HI_all (hn : 1 ≤ n) (hv : ∀ k, 0 ≤ k → k < n → 1 ≤ v k) (hs : ∀ k, 0 ≤ k → k + 1 < n → v k ≤ v (k + 1)) : ∀ u : Nat, (u : Int) + 2 ≤ 2 * n → HI v n u
  | 0, h => ⟨⟨Int.le_refl 0, by show 0 ≤ n; omega, Int.le_refl 0, by show ((0 : Int) + 1) / 2 ≤ 0; omega⟩, fun _ _ => rfl, fun k a b => by omega, fun k a b => by omega, fun z hz => by omega, fun t ht => by omega, fun z hz => by omega, fun z hz => by omega, fun z hz => by omega⟩
  | u + 1, h => HI_s hv hs (by omega) (HI_all hn hv hs u (by omega))
end Huff
