/-! word, changed -/
section WordMethods2
variable {sc : bm_Sc} {ι : bm_S} {Rest : bm_S → Prop} {H : Nat × Int → bm_S → Prop}
theorem s_manyOf1 {K : Int → bm_S → Prop} {x : Int} (hx : 4 ≤ x ∧ x ≤ 10) (h : K (ι 65 0 x) ι) : bC sc 109 [br 10 0, bi x] ι (bk1 K H) := s_manyOf (by rw [if_pos hx]; exact h)
theorem x_add45 {K : bm_S → Prop} {n p : Int} {v : bm_V} (hn : 4 ≤ n ∧ n ≤ 10) (hp : 0 ≤ p ∧ p + 10 ≤ 2240) : ∀ (m : Nat) (k : Int) (ι : bm_S), k = n - m → 0 ≤ k → ι 2 0 1 = n → 0 ≤ ι 65 0 n ∧ ι 65 0 n ≤ 32 →
    (∀ ι', (∀ j, k ≤ j → j < n → ι' 64 0 (p + j) = bm_byte (ι 20 0 j)) → (∀ q, ¬ (p + k ≤ q ∧ q < p + n) → ι' 64 0 q = ι 64 0 q) → (∀ j, ι' 65 0 j = fs (ι 65 0) n (ι 65 0 n + 1) j) → Fr (fun t _ _ => t = 64 ∨ t = 65) ι ι' → K ι') → bW sc 112 45 [br 10 0, br 2 0, bi n, v, bi p, bi k] [] ι (bk0 K H)
  | 0, k, ι, hk, h0, hs, hc, h => by
    refine e_W_add_45 (bif_t (by omega) ⟨by omega, by omega, by omega, ?_⟩)
    exact h _ (fun j j0 j1 => by omega) (fun q _ => by simp (disch := omega) only [up_s, up_k, up_j, up_i]) (fun j => by rw [up_at]; rfl) ((Fr.refl _ _).u (by omega))
  | m + 1, k, ι, hk, h0, hs, hc, h => by
    have hL := L20_0
    refine e_W_add_45 (bif_f (by omega) ⟨by omega, s_at (Or.inl rfl) (by omega) ⟨by omega, by omega, ?_⟩⟩)
    rw [if_neg (by omega), by_by, by_m]
    refine x_add45 hn hp m (k + 1) _ (by omega) (by omega) (by simp (disch := omega) only [up_s, up_k, up_j, up_i]; exact hs) (by simp (disch := omega) only [up_s, up_k, up_j, up_i]; exact hc) ?_
    intro ι' g1 g2 g3 g4
    refine h ι' (fun j j0 j1 => ?_) (fun q hq => ?_) (fun j => ?_) (((Fr.refl _ _).u (by omega)).trans g4)
    · by_cases e : j = k
      · rw [g2 _ (by omega), e, up_s]
      · rw [g1 j (by omega) j1, up_k (by decide)]
    · rw [g2 q (by omega), up_j (by omega)]
    · rw [g3 j]
      unfold fs
      rw [up_k (by decide), up_k (by decide)]
theorem m_word45 {K : Int → bm_S → Prop} {n : Int} (hn : 4 ≤ n ∧ n ≤ 10) : ∀ (m : Nat) (k : Int) (ι : bm_S), k = n - m → 0 ≤ k → 0 ≤ ι 69 0 n ∧ ι 69 0 n < 32 →
    (∀ ι', (∀ j, k ≤ j → j < n → ι' 68 0 (320 * (n - 4) + 10 * ι 69 0 n + j) = bm_byte (ι 66 0 j)) → (∀ q, ¬ (320 * (n - 4) + 10 * ι 69 0 n + k ≤ q ∧ q < 320 * (n - 4) + 10 * ι 69 0 n + n) → ι' 68 0 q = ι 68 0 q) → (∀ j, ι' 69 0 j = fs (ι 69 0) n (ι 69 0 n + 1) j) → ι' 13 0 3 = 0 → ι' 13 0 4 = -1 → Fr (fun t _ j => t = 68 ∨ t = 69 ∨ t = 13 ∧ (j = 3 ∨ j = 4)) ι ι' → K (ι 69 0 n + 1) ι') → bW sc 161 45 [br 13 0, bi n, bi k] [] ι (bk1 K H)
  | 0, k, ι, hk, h0, hc, h => by
    refine e_M_word_45 (bif_t (by omega) ⟨by omega, by omega, by omega, m_emptyTape ⟨by omega, ?_⟩⟩)
    rw [up_k (by decide), up_k (by decide), up_s]
    exact h _ (fun j j0 j1 => by omega) (fun q _ => by simp (disch := omega) only [up_s, up_k, up_j, up_i]) (fun j => by rw [up_k (by decide), up_k (by decide), up_at]; rfl) (by simp (disch := omega) only [up_s, up_k, up_j, up_i]) (by simp (disch := omega) only [up_s, up_k, up_j, up_i]) ((((Fr.refl _ _).u (by omega)).u (by omega)).u (by omega))
  | m + 1, k, ι, hk, h0, hc, h => by
    refine e_M_word_45 (bif_f (by omega) ⟨by omega, m_wordAt hn (by omega) ⟨by omega, by omega, by omega, by omega, ?_⟩⟩)
    refine m_word45 hn m (k + 1) _ (by omega) (by omega) (by simp (disch := omega) only [up_s, up_k, up_j, up_i]; exact hc) ?_
    rw [up_k (by decide)]
    intro ι' g1 g2 g3 g4 g5 g6
    refine h ι' (fun j j0 j1 => ?_) (fun q hq => ?_) (fun j => ?_) g4 g5 (((Fr.refl _ _).u (by omega)).trans g6)
    · by_cases e : j = k
      · rw [g2 _ (by omega), e, up_s]
      · rw [g1 j (by omega) j1, up_k (by decide)]
    · rw [g2 q (by omega), up_j (by omega)]
    · rw [g3 j]
      unfold fs
      rw [up_k (by decide)]
theorem p_word (hR : ∀ ι ι', Fr sf ι ι' → Rest ι → Rest ι') (hJ : Jn Rest ι) : Pair sc 126 161 [] ι (Jn Rest) := by
  obtain ⟨⟨t1, t2, t3, t4⟩, hm, hw, hr⟩ := hJ
  have hL := L20_0
  have fin : Jn Rest (up ι 13 0 0 0) := ⟨⟨t1, t2, t3, t4⟩, hm, hw, hR _ _ ((Fr.refl sf ι).u (by unfold sf; omega)) hr⟩
  refine e_X_word_0 (bif_i (fun h1 => ?_) (fun h1 => (bif_i (fun h2 => ?_) (fun h2 => ?_))))
  · refine e_M_word_0 (bif_t (by omega) ?_)
    exact ⟨rfl, fin⟩
  · refine s_manyOf1 (by omega) ?_
    have hc := hw.2 (ι 2 0 1) (by omega) (by omega)
    refine bif_i (fun h3 => ?_) (fun h3 => ?_)
    · refine e_W_add_0 (s_manyOf1 (by omega) ?_)
      refine bif_f (by omega) (bif_f (by omega) (bif_t h3 ⟨by omega, by omega, by omega, by omega, ?_⟩))
      refine x_add45 (by omega) (by omega) (ι 2 0 1).toNat 0 ι (by omega) (by omega) rfl (by omega) fun ι1 a1 a2 a3 a4 => ?_
      have hB : By ι1 0 (ι 2 0 1) (ι 2 0 2) (ι 20 0) := ⟨a4 2 0 1 (by omega), a4 2 0 2 (by omega), fun k _ _ => a4 20 0 k (by omega)⟩
      refine s_cut (Or.inl rfl) hB (by omega) fun ι2 b2 f2 => ?_
      refine s_manyOf1 (by omega) ?_
      rw [f2 65 0 _ (by omega), a3, fs_s]
      have F : Fr (fun t i _ => t = 64 ∨ t = 65 ∨ (t = 2 ∨ t = 20) ∧ i = 0) ι ι2 := (a4.wide fun t i j q => by omega).trans (f2.fr.wide fun t i j q => by omega)
      have e3 : ι2 13 0 3 = ι 2 0 1 := by rw [F 13 0 3 (by omega), t2]
      have e69 : ∀ j, ι2 69 0 j = ι 69 0 j := fun j => F 69 0 j (by omega)
      refine e_M_word_0 ?_
      rw [e3]
      refine bif_f (by omega) ⟨by omega, bif_f (by rw [e69]; omega) ?_⟩
      refine m_word45 (by omega) (ι 2 0 1).toNat 0 _ (by omega) (by omega) (by simp (disch := omega) only [up_s, up_k, up_j, up_i]; rw [e69]; omega) ?_
      rw [up_k (by decide), e69]
      intro ι' g1 g2 g3 g4 g5 g6
      have G : Fr (fun t i j => t = 64 ∨ t = 65 ∨ (t = 2 ∨ t = 20) ∧ i = 0 ∨ t = 68 ∨ t = 69 ∨ t = 13 ∧ (j = 0 ∨ j = 3 ∨ j = 4)) ι ι' := ((F.wide fun t i j q => by omega).u (by omega)).trans (g6.wide fun t i j q => by omega)
      have c64 : ∀ j, ι' 64 0 j = ι1 64 0 j := fun j => by rw [g6 64 0 j (by omega), up_k (by decide), f2 64 0 j (by omega)]
      have c65 : ∀ j, ι' 65 0 j = ι1 65 0 j := fun j => by rw [g6 65 0 j (by omega), up_k (by decide), f2 65 0 j (by omega)]
      refine ⟨by rw [hc.1], ?_, hm.to G (fun j => by omega), ⟨fun k k0 k1 => ?_, fun n n0 n1 => ?_⟩, hR _ _ (G.wide fun t i j q => by unfold sf; omega) hr⟩
      · refine Jt_empty f2 b2 (by omega) (by omega) ι' ?_ ?_ g4 g5
        · rw [g6 2 0 1 (by omega), up_k (by decide)]
        · rw [g6 2 0 2 (by omega), up_k (by decide)]
      · rw [c64]
        have hk := hw.1 k k0 k1
        by_cases q : 320 * (ι 2 0 1 - 4) + 10 * ι 69 0 (ι 2 0 1) ≤ k ∧ k < 320 * (ι 2 0 1 - 4) + 10 * ι 69 0 (ι 2 0 1) + ι 2 0 1
        · have u1 := a1 (k - (320 * (ι 2 0 1 - 4) + 10 * ι 69 0 (ι 2 0 1))) (by omega) (by omega)
          have u2 := g1 (k - (320 * (ι 2 0 1 - 4) + 10 * ι 69 0 (ι 2 0 1))) (by omega) (by omega)
          have u3 := t3 (k - (320 * (ι 2 0 1 - 4) + 10 * ι 69 0 (ι 2 0 1))) (by omega) (by omega)
          rw [show ((ι 2 0 1 - 4) * 32 + ι 65 0 (ι 2 0 1)) * 10 + (k - (320 * (ι 2 0 1 - 4) + 10 * ι 69 0 (ι 2 0 1))) = k by omega] at u1
          rw [show 320 * (ι 2 0 1 - 4) + 10 * ι 69 0 (ι 2 0 1) + (k - (320 * (ι 2 0 1 - 4) + 10 * ι 69 0 (ι 2 0 1))) = k by omega, up_k (by decide), F 66 0 _ (by omega)] at u2
          rw [u1, u2, u3.1]
          exact ⟨rfl, by_rg _⟩
        · rw [a2 k (by omega), g2 k (by omega), up_k (by decide), F 68 0 k (by omega)]
          exact hk
      · rw [c65, a3, g3]
        unfold fs
        rw [up_k (by decide), e69]
        have hn := hw.2 n n0 n1
        by_cases q : n = ι 2 0 1
        · rw [if_pos q, if_pos q]; omega
        · rw [if_neg q, if_neg q]; exact hn
    · refine e_M_word_0 (bif_f (by omega) ⟨by omega, bif_t (by rw [t2]; omega) ?_⟩)
      exact ⟨rfl, fin⟩
  · refine e_M_word_0 (bif_t (by omega) ?_)
    exact ⟨rfl, fin⟩
/-- what the changes make of a word -/
def csz (n how : Int) : Int := if how < 3 then n else if how = 5 then n - 2 else n - 1
def asz (a : Int) : Int := if a = 3 then 2 else min a 1
def chs (n c : Int) : Int := csz n (c % 6) + asz (c / 6)
def chb (g : Int → Int) (n w c i : Int) : Int :=
  if 0 ≤ (if c / 6 = 2 then i - 1 else i) ∧ (if c / 6 = 2 then i - 1 else i) < csz n (c % 6) then cby g n w (c % 6) (if c / 6 = 2 then i - 1 else i) else if c / 6 = 3 ∧ (if c / 6 = 2 then i - 1 else i) = csz n (c % 6) then 44 else 32
theorem csz_rg {n how : Int} (hn : 4 ≤ n ∧ n ≤ 10) : 2 ≤ csz n how ∧ csz n how ≤ n ∧ (how = 3 → csz n how = n - 1) := by
  unfold csz
  by_cases h : how < 3
  · rw [if_pos h]; omega
  · rw [if_neg h]
    by_cases h5 : how = 5
    · rw [if_pos h5]; omega
    · rw [if_neg h5]; omega
theorem asz_rg {a : Int} (ha : 0 ≤ a ∧ a ≤ 3) : 0 ≤ asz a ∧ asz a ≤ 2 := by
  unfold asz
  by_cases h : a = 3
  · rw [if_pos h]; omega
  · rw [if_neg h]; omega
theorem s_coreSize {K : Int → bm_S → Prop} {n how : Int} (hn : 4 ≤ n ∧ n ≤ 10) (h : K (csz n how) ι) : bC sc 115 [bi n, bi how] ι (bk1 K H) := by
  unfold csz at h
  refine e_W_coreSize_0 (bif_i (fun h1 => (bif_i (fun h2 => ⟨by omega, ?_⟩) (fun h2 => ⟨by omega, ?_⟩))) (fun h1 => ?_))
  · rw [if_neg (by omega), if_pos h2] at h; exact h
  · rw [if_neg (by omega), if_neg h2] at h; exact h
  · rw [if_pos (by omega)] at h; exact h
theorem s_changedSize {K : Int → bm_S → Prop} {n c : Int} (hn : 4 ≤ n ∧ n ≤ 10) (hc : 0 ≤ c ∧ c < 24) (h : K (chs n c) ι) : bC sc 118 [bi n, bi c] ι (bk1 K H) := by
  have h1 := csz_rg (how := c % 6) hn
  have h2 := asz_rg (a := c / 6) (by omega)
  refine e_W_changedSize_0 ⟨by omega, s_coreSize hn ⟨by omega, ?_⟩⟩
  unfold chs at h
  unfold asz at h h2
  refine e_W_aroundSize_0 (bif_i (fun q1 => ?_) (fun q1 => ?_))
  · rw [if_pos q1] at h h2; exact ⟨by omega, h⟩
  · rw [if_neg q1] at h h2; exact ⟨by omega, h⟩
theorem s_changedByte {K : Int → bm_S → Prop} {n w c i : Int} (hn : 4 ≤ n ∧ n ≤ 10) (hw : 0 ≤ w ∧ w < 32) (hc : 0 ≤ c ∧ c < 24) (hi : 0 ≤ i ∧ i < 20) (hb : ∀ k, 0 ≤ k → k < 2240 → -128 ≤ ι 64 0 k ∧ ι 64 0 k < 128) (h : K (chb (ι 64 0) n w c i % 256) ι) : bC sc 119 [br 10 0, bi n, bi w, bi c, bi i] ι (bk1 K H) := by
  have hs := csz_rg (how := c % 6) hn
  refine e_W_changedByte_0 ⟨by omega, by omega, s_coreSize hn ?_⟩
  unfold chb at h
  refine bif_i (fun h1 => ⟨by omega, bif_i (fun h2 => ?_) (fun h2 => bif_i (fun h3 => ?_) (fun h3 => s_coreByte hn hw (by omega) (by omega) (by omega) hb ?_))⟩) (fun h1 => bif_f (by omega) (bif_i (fun h3 => ?_) (fun h3 => s_coreByte hn hw (by omega) (by omega) (by omega) hb ?_)))
  · rw [if_pos h1, if_neg (by omega), if_neg (by omega)] at h
    exact bif_f (by omega) h
  · rw [if_pos h1, if_neg (by omega), if_neg (by omega)] at h
    exact bif_f (by omega) h
  · rw [if_pos h1, if_pos (by omega)] at h; exact h
  · rw [if_neg h1, if_neg (by omega)] at h
    refine bif_i (fun h4 => bif_i (fun h5 => ?_) (fun h5 => ?_)) (fun h4 => ?_)
    · rw [if_pos ⟨h4, h5⟩] at h; exact h
    · rw [if_neg (by omega)] at h; exact h
    · rw [if_neg (by omega)] at h; exact h
  · rw [if_neg h1, if_pos (by omega)] at h; exact h
theorem m_putChanged {K : bm_S → Prop} {x s : Int} (hs : ι 13 0 10 = s) (h0 : 0 ≤ s ∧ s < 20) (h : ∀ ι', ι' 13 0 10 = s + 1 → (∀ j, ι' 70 0 j = fs (ι 70 0) s (bm_byte x) j) → Fr (fun t _ j => t = 70 ∨ t = 13 ∧ j = 10) ι ι' → K ι') : bC sc 167 [br 13 0, bi x] ι (bk0 K H) := by
  refine e_M_putChanged_0 ?_
  rw [hs]
  refine ⟨by omega, by omega, h _ (by simp (disch := omega) only [up_s, up_k, up_j, up_i]) (fun j => ?_) (((Fr.refl _ _).u (by omega)).u (by omega))⟩
  rw [up_k (by decide), up_at, by_by]; rfl
/-- a letter raised, as the other has it -/
def rv (g : Int → Int) (b how k : Int) : Int := if (how = 2 ∨ how = 1 ∧ k = 0) ∧ 97 ≤ g (b + k) ∧ g (b + k) ≤ 122 then g (b + k) - 32 else g (b + k)
theorem m_ch73 {K : bm_S → Prop} {n w how ar en : Int} {v3 v6 : bm_V} (hn : 4 ≤ n ∧ n ≤ 10) (hw : 0 ≤ w ∧ w < 32) (he : en ≤ n) (har : 0 ≤ ar ∧ ar ≤ 3) : ∀ (m : Nat) (k s : Int) (v9 v10 : bm_V) (ι : bm_S), k = en - m → 0 ≤ k → ι 13 0 10 = s → 0 ≤ s → s + m + 2 ≤ 20 → (∀ k, 0 ≤ k → k < 2240 → -128 ≤ ι 68 0 k ∧ ι 68 0 k < 128) →
    (∀ ι', ι' 13 0 10 = s + m + (if ar = 3 then 2 else if ar = 1 then 1 else 0) → (∀ j : Int, 0 ≤ j → j < m → ι' 70 0 (s + j) = bm_byte (rv (ι 68 0) (320 * (n - 4) + 10 * w) how (k + j))) → (ar = 3 → ι' 70 0 (s + m) = 44 ∧ ι' 70 0 (s + m + 1) = 32) → (ar = 1 → ι' 70 0 (s + m) = 32) → (∀ j, j < s → ι' 70 0 j = ι 70 0 j) → Fr (fun t _ j => t = 70 ∨ t = 13 ∧ j = 10) ι ι' → K ι') →
    bW sc 168 73 [br 13 0, bi n, bi w, v3, bi how, bi ar, v6, bi en, bi k, v9, v10] [] ι (bk0 K H)
  | 0, k, s, v9, v10, ι, hk, h0, hs, hs0, hs1, hb, h => by
    refine e_M_change_73 (bif_t (by omega) (bif_i (fun h3 => ?_) (fun h3 => bif_i (fun h1 => ?_) (fun h1 => bif_f h3 ?_))))
    · refine m_putChanged hs (by omega) fun ι1 a1 a2 a3 => bif_f (by omega) (bif_t h3 (m_putChanged a1 (by omega) fun ι2 c1 c2 c3 => ?_))
      refine h ι2 (by rw [c1, if_pos h3]; omega) (fun j j0 j1 => by omega) (fun _ => ⟨?_, ?_⟩) (fun _ => by omega) (fun j j0 => ?_) (a3.trans c3)
      · rw [c2, fs_n (by omega), a2, show s + ((0 : Nat) : Int) = s by omega, fs_s]; rfl
      · rw [c2, show s + ((0 : Nat) : Int) + 1 = s + 1 by omega, fs_s]; rfl
      · rw [c2, fs_n (by omega), a2, fs_n (by omega)]
    · refine m_putChanged hs (by omega) fun ι1 a1 a2 a3 => ?_
      refine h ι1 (by rw [a1, if_neg h3, if_pos h1]; omega) (fun j j0 j1 => by omega) (fun _ => by omega) (fun _ => ?_) (fun j j0 => ?_) a3
      · rw [a2, show s + ((0 : Nat) : Int) = s by omega, fs_s]; rfl
      · rw [a2, fs_n (by omega)]
    · exact h ι (by rw [hs, if_neg h3, if_neg h1]; omega) (fun j j0 j1 => by omega) (fun _ => by omega) (fun _ => by omega) (fun j j0 => rfl) (Fr.refl _ _)
  | m + 1, k, s, v9, v10, ι, hk, h0, hs, hs0, hs1, hb, h => by
    have step : ∀ (x : Int) (v9 v10 : bm_V), x = rv (ι 68 0) (320 * (n - 4) + 10 * w) how k → bC sc 167 [br 13 0, bi x] ι (bk0 (fun ι7 => bm_rg (k + 1) ∧ bW sc 168 73 [br 13 0, bi n, bi w, v3, bi how, bi ar, v6, bi en, bi (k + 1), v9, v10] [] ι7 (bk0 K H)) (bq (bk0 K H))) := by
      intro x v9 v10 hx
      refine m_putChanged hs (by omega) fun ι1 a1 a2 a3 => ⟨by omega, ?_⟩
      have e68 : ι1 68 0 = ι 68 0 := funext fun j => a3 68 0 j (by omega)
      refine m_ch73 hn hw he har m (k + 1) (s + 1) _ _ ι1 (by omega) (by omega) a1 (by omega) (by omega) (by rw [e68]; exact hb) ?_
      rw [e68]
      intro ι' g1 g2 g3 g4 g5 g6
      refine h ι' (by rw [g1]; omega) (fun j j0 j1 => ?_) (fun q => ?_) (fun q => ?_) (fun j j0 => ?_) (a3.trans g6)
      · by_cases e : j = 0
        · rw [e, g5 _ (by omega), a2, show s + 0 = s by omega, fs_s, hx, show k + 0 = k by omega]
        · have := g2 (j - 1) (by omega) (by omega)
          rw [show s + 1 + (j - 1) = s + j by omega, show k + 1 + (j - 1) = k + j by omega] at this
          exact this
      · have := g3 q
        rw [show s + ((m + 1 : Nat) : Int) = s + 1 + (m : Int) by omega]
        exact this
      · have := g4 q
        rw [show s + ((m + 1 : Nat) : Int) = s + 1 + (m : Int) by omega]
        exact this
      · rw [g5 j (by omega), a2, fs_n (by omega)]
    refine e_M_change_73 (bif_f (by omega) (m_wordAt hn (by omega) ⟨by omega, by omega, ?_⟩))
    have hr := hb (320 * (n - 4) + 10 * w + k) (by omega) (by omega)
    refine bif_i (fun h1 => step _ _ _ ?_) (fun h1 => bif_i (fun h2 => step _ _ _ ?_) (fun h2 => bif_i (fun h3 => ⟨by omega, step _ _ _ ?_⟩) (fun h3 => bif_i (fun h4 => bif_i (fun h5 => ⟨by omega, step _ _ _ ?_⟩) (fun h5 => step _ _ _ ?_)) (fun h4 => step _ _ _ ?_))))
    all_goals unfold rv
    · rw [if_neg (by omega)]
    · rw [if_neg (by omega)]
    · rw [if_pos (by omega)]
    · rw [if_pos (by omega)]
    · rw [if_neg (by omega)]
    · rw [if_neg (by omega)]
theorem chb_rg {g : Int → Int} {n w c i : Int} (hn : 4 ≤ n ∧ n ≤ 10) (hw : 0 ≤ w ∧ w < 32) (hc : 0 ≤ c ∧ c < 24) (hb : ∀ k, 0 ≤ k → k < 2240 → -128 ≤ g k ∧ g k < 128) : -128 ≤ chb g n w c i ∧ chb g n w c i < 128 := by
  have hs := csz_rg (how := c % 6) hn
  unfold chb
  generalize (if c / 6 = 2 then i - 1 else i) = p
  by_cases h : 0 ≤ p ∧ p < csz n (c % 6)
  · rw [if_pos h]
    unfold cby
    have a1 := hb (320 * (n - 4) + 10 * w + p) (by omega) (by omega)
    have a2 := hb (320 * (n - 4) + 10 * w + p + (if c % 6 = 3 then 1 else 0)) (by omega) (by omega)
    split
    · omega
    · exact a2
  · rw [if_neg h]
    split <;> omega
theorem m_change {K : bm_S → Prop} {n w c : Int} (hn : 4 ≤ n ∧ n ≤ 10) (hw : 0 ≤ w ∧ w < 32) (hc : 0 ≤ c ∧ c < 24) (hb : ∀ k, 0 ≤ k → k < 2240 → -128 ≤ ι 68 0 k ∧ ι 68 0 k < 128)
    (h : ∀ ι', ι' 13 0 10 = chs n c → (∀ i, 0 ≤ i → i < chs n c → ι' 70 0 i = chb (ι 68 0) n w c i) → Fr (fun t _ j => t = 70 ∨ t = 13 ∧ j = 10) ι ι' → K ι') : bC sc 168 [br 13 0, bi n, bi w, bi c] ι (bk0 K H) := by
  -- the loop from its start
  have loop : ∀ (ι1 : bm_S) (s fi en : Int), ι1 13 0 10 = s → s = (if c / 6 = 2 then 1 else 0) → fi = (if c % 6 = 3 then 1 else 0) → en - fi = csz n (c % 6) → (c / 6 = 2 → ι1 70 0 0 = 32) → Fr (fun t _ j => t = 70 ∨ t = 13 ∧ j = 10) ι ι1 →
      bW sc 168 73 [br 13 0, bi n, bi w, bi c, bi (c % 6), bi (c / 6), bi fi, bi en, bi fi, bu, bu] [] ι1 (bk0 K H) := by
    intro ι1 s fi en c1 c2 c3 c4 c5 c6
    have hs := csz_rg (how := c % 6) hn
    have e68 : ι1 68 0 = ι 68 0 := funext fun j => c6 68 0 j (by omega)
    refine m_ch73 hn hw (by omega) (by omega) (csz n (c % 6)).toNat fi s _ _ ι1 (by omega) (by omega) c1 (by omega) (by omega) (by rw [e68]; exact hb) ?_
    rw [e68]
    intro ι' g1 g2 g3 g4 g5 g6
    have hm : (((csz n (c % 6)).toNat : Nat) : Int) = csz n (c % 6) := by omega
    rw [hm] at g1 g3 g4
    refine h ι' ?_ (fun i i0 i1 => ?_) (c6.trans g6)
    · rw [g1, c2]
      unfold chs asz
      omega
    · have hi1 : i < s + csz n (c % 6) + (if c / 6 = 3 then 2 else if c / 6 = 1 then 1 else 0) := by
        unfold chs asz at i1
        omega
      have hr := chb_rg (g := ι 68 0) (i := i) hn hw hc hb
      by_cases q : s ≤ i ∧ i < s + csz n (c % 6)
      · have u := g2 (i - s) (by omega) (by omega)
        rw [show s + (i - s) = i by omega] at u
        have v : rv (ι 68 0) (320 * (n - 4) + 10 * w) (c % 6) (fi + (i - s)) = chb (ι 68 0) n w c i := by
          have hp : (if c / 6 = 2 then i - 1 else i) = i - s := by omega
          have hcb : chb (ι 68 0) n w c i = cby (ι 68 0) n w (c % 6) (i - s) := by
            unfold chb
            rw [hp, if_pos (by omega)]
          rw [hcb]
          unfold rv cby
          by_cases h3 : c % 6 = 3
          · rw [if_pos h3] at c3
            rw [if_neg (by omega), if_neg (by omega), if_pos h3, c3]
            congr 1
            omega
          · rw [if_neg h3] at c3
            rw [c3, if_neg h3, show (0 : Int) + (i - s) = i - s by omega, show 320 * (n - 4) + 10 * w + (i - s) + 0 = 320 * (n - 4) + 10 * w + (i - s) by omega]
        rw [u, v, by_id hr]
      · have hp : (if c / 6 = 2 then i - 1 else i) = i - s := by omega
        unfold chb
        rw [hp, if_neg (by omega)]
        by_cases q2 : c / 6 = 2
        · have : i = 0 := by omega
          rw [if_neg (by omega), this, g5 0 (by omega), c5 q2]
        · by_cases q3 : c / 6 = 3
          · by_cases q4 : i - s = csz n (c % 6)
            · rw [if_pos ⟨q3, q4⟩, show i = s + csz n (c % 6) by omega, (g3 q3).1]
            · rw [if_neg (by omega), show i = s + csz n (c % 6) + 1 by omega, (g3 q3).2]
          · have q1 : c / 6 = 1 := by omega
            rw [if_neg (by omega), show i = s + csz n (c % 6) by omega, g4 q1]
  have fin : ∀ (ι1 : bm_S), ι1 13 0 10 = (if c / 6 = 2 then 1 else 0) → (c / 6 = 2 → ι1 70 0 0 = 32) → Fr (fun t _ j => t = 70 ∨ t = 13 ∧ j = 10) ι ι1 → ∀ fi en, fi = (if c % 6 = 3 then 1 else 0) → en - fi = csz n (c % 6) → bW sc 168 73 [br 13 0, bi n, bi w, bi c, bi (c % 6), bi (c / 6), bi fi, bi en, bi fi, bu, bu] [] ι1 (bk0 K H) :=
    fun ι1 a b d fi en e f => loop ι1 _ fi en a rfl e f b d
  have F0 : Fr (fun t _ j => t = 70 ∨ t = 13 ∧ j = 10) ι (up ι 13 0 10 0) := (Fr.refl _ _).u (by omega)
  refine e_M_change_0 ⟨by omega, by omega, bif_i (fun h1 => ?_) (fun h1 => ?_)⟩
  · refine m_putChanged (s := 0) (by simp (disch := omega) only [up_s, up_k, up_j, up_i]) (by omega) fun ι1 a1 a2 a3 => ?_
    have ff := fin ι1 (by rw [a1, if_pos h1]; omega) (fun _ => by rw [a2, fs_s]; rfl) (F0.trans a3)
    refine bif_i (fun h3 => bif_f (by omega) (bif_f (by omega) (ff _ _ ?_ ?_))) (fun h3 => bif_i (fun h4 => ⟨by omega, ff _ _ ?_ ?_⟩) (fun h4 => bif_i (fun h5 => ⟨by omega, ff _ _ ?_ ?_⟩) (fun h5 => ff _ _ ?_ ?_)))
    · rw [if_pos h3]
    · unfold csz; rw [if_neg (by omega), if_neg (by omega)]
    · rw [if_neg h3]
    · unfold csz; rw [if_neg (by omega), if_neg (by omega)]; omega
    · rw [if_neg h3]
    · unfold csz; rw [if_neg (by omega), if_pos (by omega)]; omega
    · rw [if_neg h3]
    · unfold csz; rw [if_pos (by omega)]; omega
  · have ff := fin (up ι 13 0 10 0) (by rw [if_neg h1]; simp (disch := omega) only [up_s, up_k, up_j, up_i]) (fun _ => by omega) F0
    refine bif_i (fun h3 => bif_f (by omega) (bif_f (by omega) (ff _ _ ?_ ?_))) (fun h3 => bif_i (fun h4 => ⟨by omega, ff _ _ ?_ ?_⟩) (fun h4 => bif_i (fun h5 => ⟨by omega, ff _ _ ?_ ?_⟩) (fun h5 => ff _ _ ?_ ?_)))
    · rw [if_pos h3]
    · unfold csz; rw [if_neg (by omega), if_neg (by omega)]
    · rw [if_neg h3]
    · unfold csz; rw [if_neg (by omega), if_neg (by omega)]; omega
    · rw [if_neg h3]
    · unfold csz; rw [if_neg (by omega), if_pos (by omega)]; omega
    · rw [if_neg h3]
    · unfold csz; rw [if_pos (by omega)]; omega
theorem chb_ext {g g' : Int → Int} {n w c i : Int} (hn : 4 ≤ n ∧ n ≤ 10) (hw : 0 ≤ w ∧ w < 32) (hc : 0 ≤ c ∧ c < 24) (h : ∀ k, 0 ≤ k → k < 2240 → g k = g' k) : chb g n w c i = chb g' n w c i := by
  have hs := csz_rg (how := c % 6) hn
  unfold chb
  generalize (if c / 6 = 2 then i - 1 else i) = p
  by_cases q : 0 ≤ p ∧ p < csz n (c % 6)
  · rw [if_pos q, if_pos q]
    unfold cby
    rw [h (320 * (n - 4) + 10 * w + p) (by omega) (by omega), h (320 * (n - 4) + 10 * w + p + (if c % 6 = 3 then 1 else 0)) (by omega) (by omega)]
  · rw [if_neg q, if_neg q]
theorem p_changed {n w c i : Int} (hR : ∀ ι ι', Fr sf ι ι' → Rest ι → Rest ι') (hJ : Jn Rest ι) : Pair sc 129 169 [bi n, bi w, bi c, bi i] ι (Jn Rest) := by
  obtain ⟨ht, hm, hw, hr⟩ := hJ
  have fin : Jn Rest (up ι 13 0 0 0) := ⟨ht, hm, hw, hR _ _ ((Fr.refl sf ι).u (by unfold sf; omega)) hr⟩
  have hc4 := hw.2 4 (by omega) (by omega)
  have bad : ¬ (4 ≤ n ∧ n ≤ 10 ∧ 0 ≤ w ∧ w < ι 65 0 n ∧ 0 ≤ c ∧ c < 24) → bC sc 169 [br 13 0, bi n, bi w, bi c, bi i] ι (bk1 (fun r2 ι2 => -1 = r2 ∧ Jn Rest ι2) (fun _ _ => False)) := by
    intro hb
    refine e_M_changed_0 (bif_i (fun h1 => ⟨rfl, fin⟩) (fun h1 => bif_f h1 ?_))
    have hcn := hw.2 n (by omega) (by omega)
    refine ⟨by omega, by omega, bif_i (fun h2 => ⟨rfl, fin⟩) (fun h2 => bif_t (by omega) ⟨rfl, fin⟩)⟩
  refine e_X_changed_0 (bif_i (fun h1 => bad (by omega)) (fun h1 => s_manyOf (bif_i (fun h2 => bad ?_) (fun h2 => bif_i (fun h3 => bad (by omega)) (fun h3 => bif_i (fun h4 => ?_) (fun h4 => bad (by omega)))))))
  · by_cases q : 4 ≤ n ∧ n ≤ 10
    · rw [if_pos q] at h2; omega
    · omega
  · have hn : 4 ≤ n ∧ n ≤ 10 := by
      by_cases q : 4 ≤ n ∧ n ≤ 10
      · exact q
      · rw [if_neg q] at h2; omega
    rw [if_pos hn] at h2
    have hcn := hw.2 n hn.1 hn.2
    have hs := csz_rg (how := c % 6) hn
    have ha := asz_rg (a := c / 6) (by omega)
    have hch : chs n c = csz n (c % 6) + asz (c / 6) := rfl
    have goM : ∀ r : Int, (∀ ι' : bm_S, ι' 13 0 10 = chs n c → (∀ j : Int, 0 ≤ j → j < chs n c → ι' 70 0 j = chb (ι 68 0) n w c j) → r = (if i = -1 then chs n c else if 0 ≤ i ∧ i < chs n c then chb (ι 68 0) n w c i % 256 else -1)) → bC sc 169 [br 13 0, bi n, bi w, bi c, bi i] ι (bk1 (fun r2 ι2 => r = r2 ∧ Jn Rest ι2) (fun _ _ => False)) := by
      intro r hrr
      refine e_M_changed_0 (bif_f (by omega) (bif_f (by omega) ⟨by omega, by omega, bif_f (by omega) (bif_f (by omega) (m_change hn (by omega) (by omega) (fun k a b => by simp (disch := omega) only [up_s, up_k, up_j, up_i]; exact (hw.1 k a b).2) fun ι' g1 g2 g3 => ?_))⟩))
      have e68 : up ι 13 0 0 0 68 0 = ι 68 0 := funext fun j => by simp (disch := omega) only [up_s, up_k, up_j, up_i]
      rw [e68] at g2
      have hrv := hrr ι' g1 g2
      have G : Fr (fun t _ j => t = 70 ∨ t = 13 ∧ (j = 0 ∨ j = 10)) ι ι' := ((Fr.refl _ _).u (by omega)).trans (g3.wide fun t i j q => by omega)
      have fin2 : Jn Rest ι' := by
        refine ⟨?_, hm.to G (fun j => by omega), hw.to G (fun j => by omega), hR _ _ (G.wide fun t i j q => by unfold sf; omega) hr⟩
        unfold Jt at ht ⊢
        rw [G 2 0 1 (by omega), G 2 0 2 (by omega), G 13 0 3 (by omega), G 13 0 4 (by omega), show ι' 20 0 = ι 20 0 from funext fun j => G 20 0 j (by omega), show ι' 66 0 = ι 66 0 from funext fun j => G 66 0 j (by omega)]
        exact ht
      refine bif_i (fun q1 => ?_) (fun q1 => ⟨by omega, bif_i (fun q2 => ?_) (fun q2 => ⟨by omega, ?_⟩)⟩)
      · rw [if_pos q1] at hrv
        exact ⟨by rw [hrv, g1], fin2⟩
      · rw [if_neg q1, if_neg (by omega)] at hrv
        exact ⟨hrv, fin2⟩
      · rw [if_neg q1, if_pos (by omega)] at hrv
        exact ⟨by rw [hrv, g2 i (by omega) (by omega)], fin2⟩
    refine s_changedSize hn (by omega) (bif_i (fun q1 => goM _ fun ι' _ _ => ?_) (fun q1 => bif_i (fun q2 => goM _ fun ι' _ _ => ?_) (fun q2 => bif_i (fun q3 => s_changedByte hn (by omega) (by omega) (by omega) hw.b64 (goM _ fun ι' _ _ => ?_)) (fun q3 => goM _ fun ι' _ _ => ?_))))
    · rw [if_pos q1]
    · rw [if_neg q1, if_neg (by omega)]
    · rw [if_neg q1, if_pos (by omega), chb_ext hn (by omega) (by omega) (fun k a b => (hw.1 k a b).1)]
    · rw [if_neg q1, if_neg (by omega)]
end WordMethods2
