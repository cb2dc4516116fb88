/-! codes told shortly -/
/-- what a sign of length n takes -/
def Kw (n : Int) : Int := if 1 ≤ n ∧ n ≤ 15 then bm_p2 (16 - n) else 0
def ks (L : Int → Int) : Nat → Int
  | 0 => 0
  | a + 1 => ks L a + Kw (L a)
theorem Fc_zero (L : Int → Int) : ∀ n : Nat, Fc L 0 n = 0
  | 0 => rfl
  | n + 1 => by
    unfold Fc
    rw [Fc_zero L n]
    unfold mc
    split <;> rfl
theorem Fc_succ (L : Int → Int) (a : Nat) : ∀ n : Nat, Fc L (a + 1) n = Fc L a n + (if 1 ≤ L a ∧ L a < n then bm_p2 (n - L a) else 0)
  | 0 => by
    rw [if_neg (by omega)]
    show (0 : Int) = 0 + 0
    rfl
  | n + 1 => by
    unfold Fc
    rw [Fc_succ L a n, mc_succ]
    by_cases q : 1 ≤ L a ∧ L a < n
    · rw [if_pos q, if_neg (by omega), if_pos (by omega), show ((n + 1 : Nat) : Int) - L a = ((n : Int) - L a) + 1 by omega, p2_s (by omega)]; omega
    · rw [if_neg q]
      by_cases q2 : 1 ≤ L a ∧ L a = n
      · rw [if_pos q2, if_pos (by omega), show ((n + 1 : Nat) : Int) - L a = 0 + 1 by omega, p2_s (by omega), p2_0]; omega
      · rw [if_neg q2, if_neg (by omega)]; omega
theorem Fc_ks (L : Int → Int) : ∀ a : Nat, Fc L a 16 = ks L a
  | 0 => Fc_zero L 16
  | a + 1 => by
    rw [Fc_succ, Fc_ks L a]
    show _ = ks L a + Kw (L a)
    unfold Kw
    by_cases q : 1 ≤ L a ∧ L a ≤ 15
    · rw [if_pos (by omega), if_pos q]; rfl
    · rw [if_neg (by omega), if_neg q]
theorem ks_ext {L L' : Int → Int} : ∀ {a : Nat}, (∀ s : Nat, s < a → L s = L' s) → ks L a = ks L' a
  | 0, _ => rfl
  | a + 1, h => by
    unfold ks
    rw [ks_ext (a := a) (fun s hs => h s (by omega)), h a (by omega)]
theorem ks_fs (L : Int → Int) (k v : Int) : ∀ a : Nat, 0 ≤ k → ks (fs L k v) a = ks L a + (if k < a then Kw v - Kw (L k) else 0)
  | 0, h => by rw [if_neg (by omega)]; rfl
  | a + 1, h => by
    unfold ks
    rw [ks_fs L k v a h]
    by_cases q : k < a
    · rw [if_pos q, if_pos (by omega), fs_n (by omega)]; omega
    · rw [if_neg q]
      by_cases q2 : k = a
      · rw [if_pos (by omega), ← q2, fs_s]; omega
      · rw [if_neg (by omega), fs_n (by omega)]; omega
theorem Kw_0 : Kw 0 = 0 := by unfold Kw; rw [if_neg (by omega)]
theorem ks_zero : ∀ {L : Int → Int} {a : Nat}, (∀ s : Nat, s < a → L s = 0) → ks L a = 0
  | L, 0, _ => rfl
  | L, a + 1, h => by
    unfold ks
    rw [ks_zero (a := a) (fun s hs => h s (by omega)), h a (by omega), Kw_0]
    rfl
/-- division by a power -/
theorem div_p2_le {x k : Int} (hx : 0 ≤ x) : (x / bm_p2 k ≤ 0) ↔ x < bm_p2 k := by
  have hp := bm_p2pos k
  constructor
  · intro h
    have h2 := Int.ediv_nonneg hx (by omega : 0 ≤ bm_p2 k)
    have h3 : x / bm_p2 k = 0 := by omega
    have h4 := Int.emod_lt_of_pos x hp
    have h5 := Int.emod_add_mul_ediv x (bm_p2 k)
    rw [h3, Int.mul_zero] at h5
    omega
  · intro h
    rw [Int.ediv_eq_zero_of_lt hx h]
    omega
section Width
variable {sc : bm_Sc}
theorem x_bitsIn4 {ι : bm_S} {H : Nat × Int → bm_S → Prop} {K : Int → bm_S → Prop} {x w : Int} (hx : 0 ≤ x) (hw : 0 ≤ w ∧ w ≤ 31) (h1 : x < bm_p2 w) (h2 : w = 0 ∨ bm_p2 (w - 1) ≤ x) : ∀ (m : Nat) (k : Int), k = 31 - m → 0 ≤ k → K w ι → bW sc 141 4 [bi x, bi (min k w), bi k] [] ι (bk1 K H)
  | 0, k, hk, h0, h => by
    refine e_X_bitsIn_4 (bif_t (by omega) ?_)
    rw [show min k w = w by omega]
    exact h
  | m + 1, k, hk, h0, h => by
    have ih := x_bitsIn4 (H := H) hx hw h1 h2 m (k + 1) (by omega) (by omega) h
    refine e_X_bitsIn_4 (bif_f (by omega) ⟨by omega, bif_i (fun q => ⟨by omega, ?_⟩) (fun q => ⟨by omega, by omega, ?_⟩)⟩)
    · rw [div_p2_le hx] at q
      have hk : w ≤ k := by
        by_cases e : w ≤ k
        · exact e
        · have := p2_mono (show k ≤ w - 1 by omega); omega
      rw [show min (k + 1) w = min k w by omega] at ih
      exact ih
    · rw [div_p2_le hx] at q
      have hk : k < w := by
        by_cases e : k < w
        · exact e
        · have := p2_mono (show w ≤ k by omega); omega
      rw [show min (k + 1) w = k + 1 by omega] at ih
      exact ih
theorem x_bitsIn {ι : bm_S} {H : Nat × Int → bm_S → Prop} {K : Int → bm_S → Prop} {x w : Int} (hx : 0 ≤ x) (hw : 0 ≤ w ∧ w ≤ 31) (h1 : x < bm_p2 w) (h2 : w = 0 ∨ bm_p2 (w - 1) ≤ x) (h : K w ι) : bC sc 141 [bi x] ι (bk1 K H) := by
  have := x_bitsIn4 (sc := sc) (H := H) hx hw h1 h2 31 0 (by omega) (by omega) h
  rw [show min (0 : Int) w = 0 by omega] at this
  exact e_X_bitsIn_0 this
theorem m_widthOf2 {ι : bm_S} {H : Nat × Int → bm_S → Prop} {K : Int → bm_S → Prop} {x w : Int} (hx : 0 ≤ x) (hw : 0 ≤ w ∧ w ≤ 31) (h1 : x < bm_p2 w) (h2 : w = 0 ∨ bm_p2 (w - 1) ≤ x) : ∀ (m : Nat) (k : Int), k = w - m → 0 ≤ k → K w ι → bW sc 177 2 [bi x, bi k] [] ι (bk1 K H)
  | 0, k, hk, h0, h => by
    have e : k = w := by omega
    subst e
    exact e_M_widthOf_2 ⟨by omega, bif_t ((div_p2_le hx).mpr h1) h⟩
  | m + 1, k, hk, h0, h => by
    refine e_M_widthOf_2 ⟨by omega, bif_f ?_ ⟨by omega, m_widthOf2 hx hw h1 h2 m (k + 1) (by omega) (by omega) h⟩⟩
    rw [div_p2_le hx]
    have := p2_mono (show k ≤ w - 1 by omega)
    omega
theorem m_widthOf {ι : bm_S} {H : Nat × Int → bm_S → Prop} {K : Int → bm_S → Prop} {x w : Int} (hx : 0 ≤ x) (hw : 0 ≤ w ∧ w ≤ 31) (h1 : x < bm_p2 w) (h2 : w = 0 ∨ bm_p2 (w - 1) ≤ x) (h : K w ι) : bC sc 177 [bi x] ι (bk1 K H) :=
  e_M_widthOf_0 (m_widthOf2 hx hw h1 h2 w.toNat 0 (by omega) (by omega) h)
theorem width_ex (x : Int) (hx : 0 ≤ x) : ∀ (m : Nat), x < bm_p2 m → ∃ w : Int, 0 ≤ w ∧ w ≤ m ∧ x < bm_p2 w ∧ (w = 0 ∨ bm_p2 (w - 1) ≤ x)
  | 0, h => ⟨0, by omega, by omega, h, Or.inl rfl⟩
  | m + 1, h => by
    by_cases q : x < bm_p2 m
    · obtain ⟨w, h1, h2, h3, h4⟩ := width_ex x hx m q
      exact ⟨w, h1, by omega, h3, h4⟩
    · exact ⟨((m + 1 : Nat) : Int), by omega, by omega, h, Or.inr (by rw [show ((m + 1 : Nat) : Int) - 1 = (m : Int) by omega]; omega)⟩
end Width
section Few
variable {sc : bm_Sc} {β : Int → Int} {lim : Int}
def good (T : Int → Int) (a k : Int) : Prop := T k < a ∧ ∀ j, 0 ≤ j → j < k → T j ≠ T k
theorem s_isNew33 {ι : bm_S} {H : Nat × Int → bm_S → Prop} {K : Int → bm_S → Prop} {k : Int} {v2 : bm_V} (hk : 0 ≤ k ∧ k < 4) : ∀ (m : Nat) (j x : Int), j = k - m → 0 ≤ j → (x = 0 ∨ x = 1) → (x = 0 → (∀ q, j ≤ q → q < k → ι 25 0 q ≠ ι 25 0 k) → K 1 ι) → (x = 1 ∨ (∃ q, j ≤ q ∧ q < k ∧ ι 25 0 q = ι 25 0 k) → K 0 ι) → bW sc 28 33 [br 4 0, bi k, v2, bi x, bi j] [] ι (bk1 K H)
  | 0, j, x, hj, h0, hx, h1, h2 => by
    refine e_CR_isNew_33 (bif_t (by omega) (bif_i (fun q => ⟨by omega, h1 q (fun q _ _ => by omega)⟩) (fun q => ⟨by omega, h2 (Or.inl (by omega))⟩)))
  | m + 1, j, x, hj, h0, hx, h1, h2 => by
    refine e_CR_isNew_33 (bif_f (by omega) (bif_i (fun q => ⟨by omega, by omega, bif_i (fun e => ⟨by omega, ?_⟩) (fun e => ⟨by omega, ?_⟩)⟩) (fun q => ⟨by omega, ?_⟩)))
    · exact s_isNew33 hk m (j + 1) 1 (by omega) (by omega) (by omega) (fun _ => by omega) (fun _ => h2 (Or.inr ⟨j, by omega, by omega, e⟩))
    · refine s_isNew33 hk m (j + 1) 0 (by omega) (by omega) (by omega) (fun _ hq => h1 q (fun r r0 r1 => ?_)) (fun hh => h2 (Or.inr ?_))
      · by_cases r2 : r = j
        · rw [r2]; exact e
        · exact hq r (by omega) r1
      · rcases hh with hh | ⟨r, r0, r1, r2⟩
        · omega
        · exact ⟨r, by omega, r1, r2⟩
    · exact s_isNew33 hk m (j + 1) 1 (by omega) (by omega) (by omega) (fun _ => by omega) (fun _ => h2 (Or.inl (hx.resolve_left q)))
theorem s_isNew {ι : bm_S} {H : Nat × Int → bm_S → Prop} {K : Int → bm_S → Prop} {k a : Int} (hk : 0 ≤ k ∧ k < 4) (ha : a ≤ 704) (h1 : good (ι 25 0) a k → K 1 ι) (h2 : ¬ good (ι 25 0) a k → K 0 ι) : bC sc 28 [br 4 0, bi k, bi a] ι (bk1 K H) := by
  refine e_CR_isNew_0 ⟨by omega, bif_i (fun q => ?_) (fun q => ⟨by omega, bif_t (by omega) ?_⟩)⟩
  · exact s_isNew33 hk k.toNat 0 1 (by omega) (by omega) (by omega) (fun _ => by omega) (fun _ => h2 (fun hg => by have := hg.1; omega))
  · refine s_isNew33 hk k.toNat 0 0 (by omega) (by omega) (by omega) (fun _ hq => h1 ⟨by omega, fun j j0 j1 => hq j j0 j1⟩) (fun hh => h2 (fun hg => ?_))
    rcases hh with hh | ⟨r, r0, r1, r2⟩
    · omega
    · exact hg.2 r r0 r1 r2
theorem m_few55 {ι : bm_S} {H : Nat × Int → bm_S → Prop} {K : bm_S → Prop} {st a n k : Int} (hk : 0 ≤ k ∧ k < 4) : ∀ (m : Nat) (j x : Int), j = k - m → 0 ≤ j → (x = 0 ∨ x = 1) → (x = 1 → (∀ q, j ≤ q → q < k → ι 75 0 q ≠ ι 75 0 k) → ∀ v5 v6, bW sc 179 11 [br 13 0, bi st, bi a, bi n, bi (k + 1), v5, v6] [] ι (bk0 K H)) → (x = 0 ∨ (∃ q, j ≤ q ∧ q < k ∧ ι 75 0 q = ι 75 0 k) → H (12, 0) (up ι 12 0 6 12)) → bW sc 179 55 [br 13 0, bi st, bi a, bi n, bi k, bi x, bi j] [] ι (bk0 K H)
  | 0, j, x, hj, h0, hx, h1, h2 => by
    refine e_M_readFew_55 (bif_t (by omega) (bif_i (fun q => m_fail (h2 (Or.inl q))) (fun q => ⟨by omega, h1 (by omega) (fun q _ _ => by omega) _ _⟩)))
  | m + 1, j, x, hj, h0, hx, h1, h2 => by
    refine e_M_readFew_55 (bif_f (by omega) (bif_i (fun q => ⟨by omega, ?_⟩) (fun q => ⟨by omega, by omega, bif_i (fun e => ⟨by omega, ?_⟩) (fun e => ⟨by omega, ?_⟩)⟩)))
    · exact m_few55 hk m (j + 1) 0 (by omega) (by omega) (by omega) (fun _ => by omega) (fun _ => h2 (Or.inl q))
    · exact m_few55 hk m (j + 1) 0 (by omega) (by omega) (by omega) (fun _ => by omega) (fun _ => h2 (Or.inr ⟨j, by omega, by omega, e⟩))
    · refine m_few55 hk m (j + 1) 1 (by omega) (by omega) (by omega) (fun _ hq => h1 (by omega) (fun r r0 r1 => ?_)) (fun hh => h2 (Or.inr ?_))
      · by_cases r2 : r = j
        · rw [r2]; exact e
        · exact hq r (by omega) r1
      · rcases hh with hh | ⟨r, r0, r1, r2⟩
        · omega
        · exact ⟨r, by omega, r1, r2⟩
abbrev fF (t : Nat) (i j : Int) : Prop := fR t i j ∨ t = 25
abbrev gF (t : Nat) (i j : Int) : Prop := gR t i j ∨ t = 75
theorem fR_fF {ι ι' : bm_S} (h : Fr fR ι ι') : Fr fF ι ι' := h.wide fun t i j q => by omega
theorem s_fine {ι : bm_S} {H : Nat × Int → bm_S → Prop} {K : Int → bm_S → Prop} (h1 : ι 0 0 3 = 0 → K 1 ι) (h2 : ι 0 0 3 ≠ 0 → K 0 ι) : bC sc 2 [br 0 0] ι (bk1 K H) := e_R_fine_0 (bif_i (fun q => ⟨by omega, h1 q⟩) (fun q => ⟨by omega, h2 q⟩))
theorem s_broken {ι : bm_S} {H : Nat × Int → bm_S → Prop} {K : bm_S → Prop} {x : Int} (h1 : ι 0 0 3 = 0 → K (up ι 0 0 3 x)) (h2 : ι 0 0 3 ≠ 0 → K ι) : bC sc 3 [br 0 0, bi x] ι (bk0 K H) := e_R_broken_0 (bif_i h1 h2)
/-- the told signs, one after the other -/
theorem j_few11 {a n w : Int} (hw : wfβ β lim) (ha : 2 ≤ a ∧ a ≤ 704) (hn : 1 ≤ n ∧ n ≤ 4) (h1 : a - 1 < bm_p2 w) (h2 : w = 0 ∨ bm_p2 (w - 1) ≤ a - 1) (hw0 : 0 ≤ w ∧ w ≤ 10) : ∀ (m : Nat) (k p : Int) (T : Int → Int), k = n - m → 0 ≤ k → 0 ≤ p → p ≤ lim → (∀ j, 0 ≤ j → j < k → good T a j ∧ 0 ≤ T j) →
    ∃ (p' r : Int) (T' : Int → Int), p ≤ p' ∧ p' ≤ lim ∧ (r = 0 ∨ r = 12 ∨ r = 1 ∧ p' = lim) ∧ (r = 0 → ∀ j, 0 ≤ j → j < n → good T' a j ∧ 0 ≤ T' j) ∧
    (∀ (ι : bm_S) (c : Int) (v6 : bm_V) (Q : bm_O → bm_S → Prop), cR ι β lim p 0 → (∀ j, 0 ≤ j → j < k → ι 25 0 j = T j) → (r = 0 → ∀ ι', cR ι' β lim p' 0 → (∀ j, 0 ≤ j → j < n → ι' 25 0 j = T' j) → Fr fF ι ι' → bW sc 27 22 [br 4 0, br 3 c, bi a, bi n, bi w, bi n, v6] [] ι' Q) → (r ≠ 0 → ∀ ι', cR ι' β lim p' r → Fr fF ι ι' → Q (.inl none) ι') → bW sc 27 22 [br 4 0, br 3 c, bi a, bi n, bi w, bi k, v6] [] ι Q) ∧
    (∀ (ι : bm_S) (st : Int) (v5 v6 : bm_V) (K : bm_S → Prop) (H : Nat × Int → bm_S → Prop), mR ι β lim p → (∀ j, 0 ≤ j → j < k → ι 75 0 j = T j) → (r = 0 → ∀ ι', mR ι' β lim p' → (∀ j, 0 ≤ j → j < n → ι' 75 0 j = T' j) → Fr gF ι ι' → ∀ v5 v6, bW sc 179 11 [br 13 0, bi st, bi a, bi n, bi n, v5, v6] [] ι' (bk0 K H)) → (r ≠ 0 → ∀ ι', mR ι' β lim p' → ι' 12 0 6 = r → Fr gF ι ι' → H (12, 0) ι') → bW sc 179 11 [br 13 0, bi st, bi a, bi n, bi k, v5, v6] [] ι (bk0 K H))
  | 0, k, p, T, hk, h0, hp0, hp1, hT => by
    have e : k = n := by omega
    subst e
    exact ⟨p, 0, T, by omega, hp1, Or.inl rfl, fun _ => hT, fun ι c v6 Q hR hj h _ => h rfl ι hR hj (Fr.refl _ _), fun ι st v5 v6 K H hR hj h _ => h rfl ι hR hj (Fr.refl _ _) _ _⟩
  | m + 1, k, p, T, hk, h0, hp0, hp1, hT => by
    have w1 := hw.1
    by_cases hp : p + w ≤ lim
    · have hv := nm_rg (p := p) w1 w.toNat
      have hgT : ∀ f : Int → Int, (∀ j, 0 ≤ j → j < k → f j = T j) → f k = nm β p w.toNat → (good f a k ↔ good (fs T k (nm β p w.toNat)) a k) := by
        intro f f1 f2
        unfold good
        rw [f2, fs_s]
        constructor
        · intro ⟨q1, q2⟩
          exact ⟨q1, fun j j0 j1 => by rw [fs_n (by omega), ← f1 j j0 j1]; exact q2 j j0 j1⟩
        · intro ⟨q1, q2⟩
          exact ⟨q1, fun j j0 j1 => by have := q2 j j0 j1; rw [fs_n (by omega), ← f1 j j0 j1] at this; exact this⟩
      by_cases hg : good (fs T k (nm β p w.toNat)) a k
      · -- one more
        obtain ⟨p', r, T', i1, i2, i3, i4, i5, i6⟩ := j_few11 hw ha hn h1 h2 hw0 m (k + 1) (p + w) (fs T k (nm β p w.toNat)) (by omega) (by omega) (by omega) hp (fun j j0 j1 => by
          by_cases q : j = k
          · rw [q, fs_s]; exact ⟨hg, hv.1⟩
          · have := hT j j0 (by omega)
            rw [fs_n q]
            refine ⟨⟨by rw [fs_n q]; exact this.1.1, fun i a1 a2 => ?_⟩, this.2⟩
            rw [fs_n q, fs_n (by omega)]
            exact this.1.2 i a1 a2)
        refine ⟨p', r, T', by omega, i2, i3, i4, ?_, ?_⟩
        · intro ι c v6 Q hR hj h hh
          refine e_CR_readShort_22 (bif_f (by omega) (s_number hw (by omega) (by omega) hR ⟨by omega, ?_⟩))
          have hF : Fr fF ι (up (up ι 0 0 1 (p + w)) 25 0 k (nm β p w.toNat)) := ((Fr.refl _ _).u (by omega)).u (by omega)
          have hj' : ∀ j, 0 ≤ j → j < k → up (up ι 0 0 1 (p + w)) 25 0 k (nm β p w.toNat) 25 0 j = T j := fun j j0 j1 => by rw [up_j (by omega), up_k (by decide)]; exact hj j j0 j1
          refine s_fine (fun q => ?_) (fun q => absurd (show _ = (0 : Int) by simp (disch := omega) only [up_s, up_k, up_j, up_i]; exact hR.2.2.1) q)
          refine bif_f (by omega) (s_isNew (by omega) ha.2 (fun q2 => bif_f (by omega) ⟨by omega, ?_⟩) (fun q2 => absurd ((hgT _ hj' (by rw [up_s])).mpr hg) q2))
          refine i5 _ c v6 Q (hR.fr hF (fun j => by omega) (by simp (disch := omega) only [up_s, up_k, up_j, up_i]) (by simp (disch := omega) only [up_s, up_k, up_j, up_i]; exact hR.2.2.1)) (fun j j0 j1 => ?_) (fun e ι' g1 g2 g3 => h e ι' g1 g2 (hF.trans g3)) (fun e ι' g1 g2 => hh e ι' g1 (hF.trans g2))
          rw [up_at, up_k (by decide)]
          unfold fs
          by_cases q3 : j = k
          · rw [if_pos q3, if_pos q3]
          · rw [if_neg q3, if_neg q3]; exact hj j j0 (by omega)
        · intro ι st v5 v6 K H hR hj h hh
          refine e_M_readFew_11 (bif_f (by omega) ⟨by omega, m_widthOf (by omega) (by omega) h1 h2 (m_number hw (by omega) (by omega) hR ⟨by omega, by omega, ?_⟩)⟩)
          have hF : Fr gF ι (up (up ι 13 0 16 (p + w)) 75 0 k (nm β p w.toNat)) := ((Fr.refl _ _).u (by omega)).u (by omega)
          have hj' : ∀ j, 0 ≤ j → j < k → up (up ι 13 0 16 (p + w)) 75 0 k (nm β p w.toNat) 75 0 j = T j := fun j j0 j1 => by rw [up_j (by omega), up_k (by decide)]; exact hj j j0 j1
          have hgg := (hgT _ hj' (by rw [up_s])).mpr hg
          refine bif_f (by have := hgg.1; omega) (m_few55 (by omega) k.toNat 0 1 (by omega) (by omega) (by omega) (fun _ _ v5 v6 => ?_) (fun e => ?_))
          · refine i6 _ st v5 v6 K H (hR.fr hF (fun j => by omega) (by simp (disch := omega) only [up_s, up_k, up_j, up_i])) (fun j j0 j1 => ?_) (fun e ι' g1 g2 g3 => h e ι' g1 g2 (hF.trans g3)) (fun e ι' g1 g2 g3 => hh e ι' g1 g2 (hF.trans g3))
            rw [up_at, up_k (by decide)]
            unfold fs
            by_cases q3 : j = k
            · rw [if_pos q3, if_pos q3]
            · rw [if_neg q3, if_neg q3]; exact hj j j0 (by omega)
          · rcases e with e | ⟨q, q0, q1, q2⟩
            · omega
            · exact absurd q2 (hgg.2 q q0 q1)
      · -- not new
        refine ⟨p + w, 12, T, by omega, hp, Or.inr (Or.inl rfl), fun e => by omega, ?_, ?_⟩
        · intro ι c v6 Q hR hj h hh
          refine e_CR_readShort_22 (bif_f (by omega) (s_number hw (by omega) (by omega) hR ⟨by omega, ?_⟩))
          have hF : Fr fF ι (up (up ι 0 0 1 (p + w)) 25 0 k (nm β p w.toNat)) := ((Fr.refl _ _).u (by omega)).u (by omega)
          have hj' : ∀ j, 0 ≤ j → j < k → up (up ι 0 0 1 (p + w)) 25 0 k (nm β p w.toNat) 25 0 j = T j := fun j j0 j1 => by rw [up_j (by omega), up_k (by decide)]; exact hj j j0 j1
          refine s_fine (fun q => ?_) (fun q => absurd (show _ = (0 : Int) by simp (disch := omega) only [up_s, up_k, up_j, up_i]; exact hR.2.2.1) q)
          refine bif_f (by omega) (s_isNew (by omega) ha.2 (fun q2 => absurd ((hgT _ hj' (by rw [up_s])).mp q2) hg) (fun q2 => bif_t rfl (s_broken (fun _ => ?_) (fun q3 => absurd q q3))))
          have hF2 := hF.u (t := 0) (i := 0) (j := 3) (x := 12) (by omega)
          exact hh (by omega) _ (hR.fr hF2 (fun j => by omega) (by simp (disch := omega) only [up_s, up_k, up_j, up_i]) (by simp (disch := omega) only [up_s, up_k, up_j, up_i])) hF2
        · intro ι st v5 v6 K H hR hj h hh
          refine e_M_readFew_11 (bif_f (by omega) ⟨by omega, m_widthOf (by omega) (by omega) h1 h2 (m_number hw (by omega) (by omega) hR ⟨by omega, by omega, ?_⟩)⟩)
          have hF : Fr gF ι (up (up ι 13 0 16 (p + w)) 75 0 k (nm β p w.toNat)) := ((Fr.refl _ _).u (by omega)).u (by omega)
          have hj' : ∀ j, 0 ≤ j → j < k → up (up ι 13 0 16 (p + w)) 75 0 k (nm β p w.toNat) 75 0 j = T j := fun j j0 j1 => by rw [up_j (by omega), up_k (by decide)]; exact hj j j0 j1
          have hgg : ¬ good (up (up ι 13 0 16 (p + w)) 75 0 k (nm β p w.toNat) 75 0) a k := fun q => hg ((hgT _ hj' (by rw [up_s])).mp q)
          have hF2 := hF.u (t := 12) (i := 0) (j := 6) (x := 12) (by omega)
          have fin := hh (by omega) _ (hR.fr hF2 (fun j => by omega) (by simp (disch := omega) only [up_s, up_k, up_j, up_i])) (by simp (disch := omega) only [up_s, up_k, up_j, up_i]) hF2
          refine bif_i (fun e1 => m_few55 (by omega) k.toNat 0 0 (by omega) (by omega) (by omega) (fun e => by omega) (fun _ => fin)) (fun e1 => m_few55 (by omega) k.toNat 0 1 (by omega) (by omega) (by omega) (fun _ hq v5 v6 => ?_) (fun _ => fin))
          exact absurd ⟨by omega, fun j j0 j1 => hq j j0 j1⟩ hgg
    · -- the end of the tape
      refine ⟨lim, 1, T, by omega, by omega, Or.inr (Or.inr ⟨rfl, rfl⟩), fun e => by omega, ?_, ?_⟩
      · intro ι c v6 Q hR hj h hh
        refine e_CR_readShort_22 (bif_f (by omega) (s_number_end hw (by omega) hR ⟨by omega, ?_⟩))
        have hF : Fr fF ι (up (up (up ι 0 0 1 lim) 0 0 3 1) 25 0 k 0) := (((Fr.refl _ _).u (by omega)).u (by omega)).u (by omega)
        refine s_fine (fun q => absurd q (show ¬ _ = (0 : Int) by simp (disch := omega) only [up_s, up_k, up_j, up_i]; omega)) (fun q => ?_)
        refine bif_t rfl (s_broken (fun q2 => absurd q2 q) (fun _ => ?_))
        exact hh (by omega) _ (hR.fr hF (fun j => by omega) (by simp (disch := omega) only [up_s, up_k, up_j, up_i]) (by simp (disch := omega) only [up_s, up_k, up_j, up_i])) hF
      · intro ι st v5 v6 K H hR hj h hh
        have hF : Fr gF ι (up (up ι 13 0 16 lim) 12 0 6 1) := ((Fr.refl _ _).u (by omega)).u (by omega)
        refine e_M_readFew_11 (bif_f (by omega) ⟨by omega, m_widthOf (by omega) (by omega) h1 h2 (m_number_end hw (by omega) (by omega) hR (hh (by omega) _ (hR.fr hF (fun j => by omega) (by simp (disch := omega) only [up_s, up_k, up_j, up_i])) (by simp (disch := omega) only [up_s, up_k, up_j, up_i]) hF))⟩)
end Few
