/-! bits that are written one behind the other -/
/-- the bit b at the place p of the row f -/
def wb (f : Int → Int) (p b : Int) : Int → Int := fs f (p / 8) (bm_byte (bm_or (if p % 8 = 0 then 0 else f (p / 8)) (b * bm_p2 (p % 8))))
/-- n bits β k, β (k + 1) .. from p on -/
def wbs (β : Int → Int) : Nat → Int → (Int → Int) → Int → (Int → Int)
  | 0, _, f, _ => f
  | n + 1, k, f, p => wbs β n (k + 1) (wb f p (β k)) (p + 1)
theorem wb_ext {f g : Int → Int} {p b : Int} (hp : 0 ≤ p) (h : ∀ k, 0 ≤ k → k < (p + 7) / 8 → f k = g k) : ∀ k, 0 ≤ k → k < (p + 1 + 7) / 8 → wb f p b k = wb g p b k := by
  intro k k0 k1
  unfold wb fs
  by_cases hk : k = p / 8
  · rw [if_pos hk, if_pos hk]
    by_cases h8 : p % 8 = 0
    · rw [if_pos h8, if_pos h8]
    · rw [if_neg h8, if_neg h8, h (p / 8) (by omega) (by omega)]
  · rw [if_neg hk, if_neg hk]
    exact h k k0 (by omega)
theorem wbs_ext {β : Int → Int} : ∀ (n : Nat) (k0 : Int) {f g : Int → Int} {p : Int}, 0 ≤ p → (∀ k, 0 ≤ k → k < (p + 7) / 8 → f k = g k) → ∀ k, 0 ≤ k → k < (p + n + 7) / 8 → wbs β n k0 f p k = wbs β n k0 g p k
  | 0, _, f, g, p, hp, h => fun k a b => h k a (by omega)
  | n + 1, k0, f, g, p, hp, h => fun k a b => wbs_ext n (k0 + 1) (by omega) (wb_ext hp h) k a (by omega)
theorem wb_rg {f : Int → Int} {p b : Int} (hp : 0 ≤ p) (h : ∀ k, 0 ≤ k → k < (p + 7) / 8 → -128 ≤ f k ∧ f k < 128) : ∀ k, 0 ≤ k → k < (p + 1 + 7) / 8 → -128 ≤ wb f p b k ∧ wb f p b k < 128 := by
  intro k k0 k1
  unfold wb fs
  by_cases hk : k = p / 8
  · rw [if_pos hk]; exact by_rg _
  · rw [if_neg hk]; exact h k k0 (by omega)
theorem wbs_rg {β : Int → Int} : ∀ (n : Nat) (k0 : Int) {f : Int → Int} {p : Int}, 0 ≤ p → (∀ k, 0 ≤ k → k < (p + 7) / 8 → -128 ≤ f k ∧ f k < 128) → ∀ k, 0 ≤ k → k < (p + n + 7) / 8 → -128 ≤ wbs β n k0 f p k ∧ wbs β n k0 f p k < 128
  | 0, _, f, p, hp, h => fun k a b => h k a (by omega)
  | n + 1, k0, f, p, hp, h => fun k a b => wbs_rg n (k0 + 1) (by omega) (wb_rg hp h) k a (by omega)
theorem p2_8 {p : Int} : 1 ≤ bm_p2 (p % 8) ∧ bm_p2 (p % 8) ≤ 128 := p2_le 7 (by omega) 128 rfl
theorem bit_p2 {x p : Int} : 0 ≤ x % 2 * bm_p2 (p % 8) ∧ x % 2 * bm_p2 (p % 8) ≤ 128 := by
  have h := p2_8 (p := p)
  rcases (show x % 2 = 0 ∨ x % 2 = 1 by omega) with e | e
  · rw [e]; omega
  · rw [e]; omega
section BitsMethods
variable {sc : bm_Sc} {ι : bm_S} {Rest : bm_S → Prop} {H : Nat × Int → bm_S → Prop}
theorem s_addBits2 {K : bm_S → Prop} {n v : Int} (hn : n = 0 ∨ n = 1) : ∀ (m : Nat) (x k b : Int) (w : bm_V) (f : Int → Int) (ι : bm_S), k = x - m → 0 ≤ k → x ≤ 32 → 0 ≤ b → b + m ≤ 8 * bm_L 20 n → By ι n ((b + 7) / 8) b f →
    (∀ ι', By ι' n ((b + m + 7) / 8) (b + m) (wbs (fun k => bm_ushr v k % 2) m k f b) → FrB n ι ι' → K ι') → bW sc 19 2 [br 2 n, bi v, bi x, bi k, w] [] ι (bk0 K H)
  | 0, x, k, b, w, f, ι, hk, h0, hx, hb, hr, hB, h => by
    refine e_B_addBits_2 (bif_t (by omega) ?_)
    refine h ι ?_ (FrB.refl _ _)
    rw [show b + ((0 : Nat) : Int) = b by omega]
    exact hB
  | m + 1, x, k, b, w, f, ι, hk, h0, hx, hb, hr, hB, h => by
    have hL := L_20 hn
    obtain ⟨e1, e2, e3⟩ := hB
    have hbit := bit_p2 (x := bm_ushr v k) (p := b)
    have next : ∀ (ι1 : bm_S) (w1 : bm_V), ι1 2 n 1 = (b + 1 + 7) / 8 → ι1 2 n 2 = b + 1 → (∀ j, 0 ≤ j → j < (b + 1 + 7) / 8 → ι1 20 n j = wb f b (bm_ushr v k % 2) j) → FrB n ι ι1 → bW sc 19 2 [br 2 n, bi v, bi x, bi (k + 1), w1] [] ι1 (bk0 K H) := by
      intro ι1 w1 c1 c2 c3 c4
      refine s_addBits2 hn m x (k + 1) (b + 1) w1 (wb f b (bm_ushr v k % 2)) ι1 (by omega) (by omega) hx (by omega) (by omega) ⟨c1, c2, c3⟩ ?_
      intro ι' g1 g2
      refine h ι' ?_ (c4.trans g2)
      rw [show b + ((m + 1 : Nat) : Int) = b + 1 + (m : Int) by omega]
      exact g1
    refine e_B_addBits_2 (bif_f (by omega) ⟨by omega, bif_f (by omega) ⟨by omega, bif_i (fun h8 => ?_) (fun h8 => ?_)⟩⟩)
    · rw [e2] at h8 ⊢
      refine ⟨by omega, by omega, by omega, by omega, by omega, by omega, by omega, ?_⟩
      refine next _ _ (by simp (disch := omega) only [up_s, up_k, up_j, up_i]; omega) (by simp (disch := omega) only [up_s, up_k, up_j, up_i]) (fun j j0 j1 => ?_) (FrB.u (Or.inl rfl) (FrB.u (Or.inr rfl) (FrB.u (Or.inl rfl) (FrB.u (Or.inr rfl) (FrB.refl _ _)))))
      rw [up_k (by decide), up_at, up_s, up_k (by decide), up_at, by_by, by_or_r, by_0]
      unfold wb fs
      by_cases hj : j = b / 8
      · rw [if_pos hj, if_pos hj, if_pos h8]
      · rw [if_neg hj, if_neg hj, if_neg hj]; exact e3 j j0 (by omega)
    · rw [e2] at h8 ⊢
      refine ⟨by omega, by omega, by omega, by omega, by omega, ?_⟩
      refine next _ _ (by simp (disch := omega) only [up_s, up_k, up_j, up_i]; omega) (by simp (disch := omega) only [up_s, up_k, up_j, up_i]) (fun j j0 j1 => ?_) (FrB.u (Or.inl rfl) (FrB.u (Or.inr rfl) (FrB.refl _ _)))
      rw [up_k (by decide), up_at, by_by, by_or_r]
      unfold wb fs
      by_cases hj : j = b / 8
      · rw [if_pos hj, if_pos hj, if_neg h8, e3 (b / 8) (by omega) (by omega)]
      · rw [if_neg hj, if_neg hj]; exact e3 j j0 (by omega)
theorem s_addBits {K : bm_S → Prop} {n v x b : Int} {f : Int → Int} (hn : n = 0 ∨ n = 1) (hx : 0 ≤ x ∧ x ≤ 32) (hb : 0 ≤ b ∧ b + x ≤ 8 * bm_L 20 n) (hB : By ι n ((b + 7) / 8) b f)
    (h : ∀ ι', By ι' n ((b + x + 7) / 8) (b + x) (wbs (fun k => bm_ushr v k % 2) x.toNat 0 f b) → FrB n ι ι' → K ι') : bC sc 19 [br 2 n, bi v, bi x] ι (bk0 K H) := by
  refine e_B_addBits_0 (s_addBits2 hn x.toNat x 0 b _ f ι (by omega) (by omega) hx.2 hb.1 (by omega) hB ?_)
  rw [show ((x.toNat : Nat) : Int) = x by omega]
  exact h
theorem m_bits56 {K : Int → bm_S → Prop} {v p0 : Int} : ∀ (m : Nat) (x k : Int) (w : bm_V) (f : Int → Int) (ι : bm_S), k = x - m → 0 ≤ k → x ≤ 32 → 0 ≤ p0 → p0 + x ≤ 19200 → ι 13 0 3 = (p0 + k + 7) / 8 → (∀ j, 0 ≤ j → j < ι 13 0 3 → ι 66 0 j = f j ∧ -128 ≤ f j ∧ f j < 128) →
    (∀ ι', ι' 13 0 3 = (p0 + x + 7) / 8 → ι' 13 0 4 = p0 + x → (∀ j, 0 ≤ j → j < (p0 + x + 7) / 8 → ι' 66 0 j = wbs (fun k => bm_ushr v k % 2) m k f (p0 + k) j) → Fr (fun t _ j => t = 66 ∨ t = 13 ∧ (j = 3 ∨ j = 4)) ι ι' → K (p0 + x) ι') →
    bW sc 156 56 [br 13 0, bi v, bi x, bi p0, bi k, w] [] ι (bk1 K H)
  | 0, x, k, w, f, ι, hk, h0, hx, hp, hr, hs, hf, h => by
    refine e_M_bits_56 (bif_t (by omega) ⟨by omega, ?_⟩)
    have e : k = x := by omega
    subst e
    exact h _ (by simp (disch := omega) only [up_s, up_k, up_j, up_i]; exact hs) (by simp (disch := omega) only [up_s, up_k, up_j, up_i]) (fun j j0 j1 => by simp (disch := omega) only [up_s, up_k, up_j, up_i]; exact (hf j j0 (by omega)).1) ((Fr.refl _ _).u (by omega))
  | m + 1, x, k, w, f, ι, hk, h0, hx, hp, hr, hs, hf, h => by
    have hp2 := p2_8 (p := p0 + k)
    have next : ∀ (ι1 : bm_S) (w1 : bm_V), ι1 13 0 3 = (p0 + (k + 1) + 7) / 8 → (∀ j, 0 ≤ j → j < (p0 + (k + 1) + 7) / 8 → ι1 66 0 j = wb f (p0 + k) (bm_ushr v k % 2) j) → Fr (fun t _ j => t = 66 ∨ t = 13 ∧ (j = 3 ∨ j = 4)) ι ι1 → bW sc 156 56 [br 13 0, bi v, bi x, bi p0, bi (k + 1), w1] [] ι1 (bk1 K H) := by
      intro ι1 w1 c1 c2 c3
      refine m_bits56 m x (k + 1) w1 (wb f (p0 + k) (bm_ushr v k % 2)) ι1 (by omega) (by omega) hx hp hr c1 (fun j j0 j1 => ⟨c2 j j0 (by omega), wb_rg (by omega) (fun q q0 q1 => (hf q q0 (by omega)).2) j j0 (by omega)⟩) ?_
      intro ι' g1 g2 g3 g4
      refine h ι' g1 g2 (fun j j0 j1 => ?_) (c3.trans g4)
      rw [g3 j j0 j1, show p0 + (k + 1) = p0 + k + 1 by omega]
      rfl
    have old : ∀ j, 0 ≤ j → j < (p0 + k + 7) / 8 → j ≠ (p0 + k) / 8 → ι 66 0 j = wb f (p0 + k) (bm_ushr v k % 2) j := fun j j0 j1 j2 => by
      unfold wb; rw [fs_n j2]; exact (hf j j0 (by omega)).1
    refine e_M_bits_56 (bif_f (by omega) ⟨by omega, by omega, bif_i (fun h8 => bif_i (fun hb => ?_) (fun hb => ?_)) (fun h8 => ⟨by omega, by omega, bif_i (fun hb => ?_) (fun hb => ?_)⟩)⟩)
    · refine ⟨by omega, by omega, by omega, by omega, by omega, by omega, by omega, ?_⟩
      refine next _ _ (by simp (disch := omega) only [up_s, up_k, up_j, up_i]; omega) (fun j j0 j1 => ?_) ((Fr.refl _ _).u (by omega))
      by_cases hj : j = (p0 + k) / 8
      · rw [up_at, if_pos hj, by_by, hj]
        unfold wb
        rw [fs_s, if_neg (by omega), hb, (hf ((p0 + k) / 8) (by omega) (by omega)).1]
      · rw [up_j hj]; exact old j j0 (by omega) hj
    · refine ⟨by omega, next _ _ (by omega) (fun j j0 j1 => ?_) (Fr.refl _ _)⟩
      by_cases hj : j = (p0 + k) / 8
      · have hfj := hf j j0 (by omega)
        unfold wb
        rw [hj, fs_s, if_neg (by omega), show bm_ushr v k % 2 = 0 by omega, Int.zero_mul, by_or_0, ← hj, by_id hfj.2]
        exact hfj.1
      · exact old j j0 (by omega) hj
    · refine ⟨by omega, by omega, by omega, by omega, by omega, by omega, by omega, ?_⟩
      have e8 : ι 13 0 3 = (p0 + k) / 8 := by omega
      refine next _ _ (by simp (disch := omega) only [up_s, up_k, up_j, up_i]; omega) (fun j j0 j1 => ?_) ((((Fr.refl _ _).u (by omega)).u (by omega)).u (by omega))
      by_cases hj : j = (p0 + k) / 8
      · rw [up_at, if_pos hj, by_by, hj, e8, up_s, by_0]
        unfold wb
        rw [fs_s, if_pos (by omega), hb]
      · rw [up_j hj, up_k (by decide), up_j (by omega)]; exact old j j0 (by omega) hj
    · have e8 : ι 13 0 3 = (p0 + k) / 8 := by omega
      refine ⟨by omega, next _ _ (by simp (disch := omega) only [up_s, up_k, up_j, up_i]; omega) (fun j j0 j1 => ?_) (((Fr.refl _ _).u (by omega)).u (by omega))⟩
      by_cases hj : j = (p0 + k) / 8
      · rw [up_k (by decide), up_at, if_pos (by omega), by_0]
        unfold wb
        rw [hj, fs_s, if_pos (by omega), show bm_ushr v k % 2 = 0 by omega, Int.zero_mul, by_or_0, by_0]
      · rw [up_k (by decide), up_j (by omega)]; exact old j j0 (by omega) hj
theorem p_bits {v x : Int} (hR : ∀ ι ι', Fr sf ι ι' → Rest ι → Rest ι') (hJ : Jn Rest ι) : Pair sc 123 156 [bi v, bi x] ι (Jn Rest) := by
  obtain ⟨⟨t1, t2, t3, t4⟩, hm, hw, hr⟩ := hJ
  have hL := L20_0
  have fin : Jn Rest (up ι 13 0 0 0) := ⟨⟨t1, t2, t3, t4⟩, hm, hw, hR _ _ ((Fr.refl sf ι).u (by unfold sf; omega)) hr⟩
  have h27 : ι 2 0 1 = (ι 2 0 2 + 7) / 8 := by omega
  have h22 : 0 ≤ ι 2 0 2 := by omega
  refine e_X_bits_0 (bif_i (fun h1 => ?_) (fun h1 => (bif_i (fun h2 => ⟨by omega, (bif_i (fun h3 => ?_) (fun h3 => ?_))⟩) (fun h2 => ?_))))
  · refine e_M_bits_0 (bif_t (by omega) ?_)
    exact ⟨rfl, fin⟩
  · have hB : By ι 0 ((ι 2 0 2 + 7) / 8) (ι 2 0 2) (ι 20 0) := ⟨h27, rfl, fun k _ _ => rfl⟩
    refine s_addBits (Or.inl rfl) (by omega) (by omega) hB fun ι1 b1 f1 => ?_
    have F := f1.fr
    have e3 : ι1 13 0 3 = ι 13 0 3 := F 13 0 3 (by omega)
    have e4 : ι1 13 0 4 = ι 13 0 4 := F 13 0 4 (by omega)
    have e66 : ∀ k, ι1 66 0 k = ι 66 0 k := fun k => F 66 0 k (by omega)
    have run : ∀ p0, p0 = ι 2 0 2 → bW sc 156 56 [br 13 0, bi v, bi x, bi p0, bi 0, bu] [] (up ι1 13 0 0 0) (bk1 (fun r2 ι2 => ι1 2 0 2 = r2 ∧ Jn Rest ι2) (fun _ _ => False)) := by
      intro p0 hp
      refine m_bits56 x.toNat x 0 _ (ι 66 0) _ (by omega) (by omega) (by omega) (by omega) (by omega) (by simp (disch := omega) only [up_s, up_k, up_j, up_i]; rw [e3, t2, hp, h27]; omega) (fun j j0 j1 => ?_) ?_
      · rw [up_j (by decide), e3, t2] at j1
        rw [up_k (by decide), e66]
        exact ⟨rfl, (t3 j j0 j1).2⟩
      · intro ι' g1 g2 g3 g4
        have G : Fr (fun t i j => (t = 2 ∨ t = 20) ∧ i = 0 ∨ t = 66 ∨ t = 13 ∧ (j = 0 ∨ j = 3 ∨ j = 4)) ι ι' := ((F.wide fun t i j q => by omega).u (by omega)).trans (g4.wide fun t i j q => by omega)
        have c20 : ∀ i j, ι' 20 i j = ι1 20 i j := fun i j => by rw [g4 20 i j (by omega)]; simp (disch := omega) only [up_s, up_k, up_j, up_i]
        have c2 : ∀ i j, ι' 2 i j = ι1 2 i j := fun i j => by rw [g4 2 i j (by omega)]; simp (disch := omega) only [up_s, up_k, up_j, up_i]
        rw [hp] at g1 g2 g3
        refine ⟨by rw [b1.2.1, hp], ⟨by rw [c2, b1.1]; omega, by rw [c2, b1.1, g1], fun k k0 k1 => ?_, Or.inr ⟨by rw [g2]; omega, by rw [c2, b1.2.1, g2], by rw [c2, c2, b1.1, b1.2.1]; omega, by rw [c2, c2, b1.1, b1.2.1]; omega⟩⟩, hm.to G (fun j => by omega), hw.to G (fun j => by omega), hR _ _ (G.wide fun t i j q => by unfold sf; omega) hr⟩
        rw [c2, b1.1] at k1
        rw [c20, b1.2.2 k k0 k1, g3 k k0 k1, show ι 2 0 2 + 0 = ι 2 0 2 by omega]
        exact ⟨wbs_ext _ 0 h22 (fun q q0 q1 => (t3 q q0 (by omega)).1) k k0 (by omega), wbs_rg _ 0 h22 (fun q q0 q1 => (t3 q q0 (by omega)).2) k k0 (by omega)⟩
    refine e_M_bits_0 (bif_f (by omega) (bif_i (fun h4 => ⟨by rw [e4]; omega, bif_t (by rw [e4]; omega) (run _ (by rw [e4]; omega))⟩) (fun h4 => ⟨by rw [e3]; omega, by rw [e3]; omega, bif_t (by rw [e3]; omega) (run _ (by rw [e3]; omega))⟩)))
  · refine e_M_bits_0 (bif_f (by omega) (bif_i (fun h4 => ⟨by omega, bif_f (by omega) ⟨rfl, fin⟩⟩) (fun h4 => ⟨by omega, by omega, bif_f (by omega) ⟨rfl, fin⟩⟩)))
  · refine e_M_bits_0 (bif_t (by omega) ?_)
    exact ⟨rfl, fin⟩
end BitsMethods
