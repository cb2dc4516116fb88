/-! words: word, clear, digest, changed -/
section WordMethods
variable {sc : bm_Sc} {ι : bm_S} {Rest : bm_S → Prop} {H : Nat × Int → bm_S → Prop}
theorem s_manyOf {K : Int → bm_S → Prop} {x : Int} (h : K (if 4 ≤ x ∧ x ≤ 10 then ι 65 0 x else 0) ι) : bC sc 109 [br 10 0, bi x] ι (bk1 K H) := by
  refine e_W_manyOf_0 (bif_i (fun h1 => ?_) (fun h1 => (bif_i (fun h2 => ⟨by omega, ?_⟩) (fun h2 => ?_))))
  · rw [if_neg (by omega)] at h; exact h
  · rw [if_pos (by omega)] at h; exact h
  · rw [if_neg (by omega)] at h; exact h
def sumw (f : Int → Int) : Int := 0 + f 4 + f (4 + 1) + f (4 + 1 + 1) + f (4 + 1 + 1 + 1) + f (4 + 1 + 1 + 1 + 1) + f (4 + 1 + 1 + 1 + 1 + 1) + f (4 + 1 + 1 + 1 + 1 + 1 + 1)
theorem s_all {K : Int → bm_S → Prop} (hw : Jw ι) (h : K (sumw (ι 65 0)) ι) : bC sc 110 [br 10 0] ι (bk1 K H) := by
  have w : ∀ n, 4 ≤ n → n ≤ 10 → 0 ≤ ι 65 0 n ∧ ι 65 0 n ≤ 32 := fun n a b => by have := hw.2 n a b; omega
  have w4 := w 4 (by omega) (by omega)
  have w5 := w (4 + 1) (by omega) (by omega)
  have w6 := w (4 + 1 + 1) (by omega) (by omega)
  have w7 := w (4 + 1 + 1 + 1) (by omega) (by omega)
  have w8 := w (4 + 1 + 1 + 1 + 1) (by omega) (by omega)
  have w9 := w (4 + 1 + 1 + 1 + 1 + 1) (by omega) (by omega)
  have w10 := w (4 + 1 + 1 + 1 + 1 + 1 + 1) (by omega) (by omega)
  refine e_W_all_0 ?_
  refine e_W_all_4 (bif_f (by omega) ⟨by omega, by omega, by omega, ?_⟩)
  refine e_W_all_4 (bif_f (by omega) ⟨by omega, by omega, by omega, ?_⟩)
  refine e_W_all_4 (bif_f (by omega) ⟨by omega, by omega, by omega, ?_⟩)
  refine e_W_all_4 (bif_f (by omega) ⟨by omega, by omega, by omega, ?_⟩)
  refine e_W_all_4 (bif_f (by omega) ⟨by omega, by omega, by omega, ?_⟩)
  refine e_W_all_4 (bif_f (by omega) ⟨by omega, by omega, by omega, ?_⟩)
  refine e_W_all_4 (bif_f (by omega) ⟨by omega, by omega, by omega, ?_⟩)
  exact e_W_all_4 (bif_t (by omega) h)
theorem m_all {K : Int → bm_S → Prop} (hw : Jw ι) (h : K (sumw (ι 69 0)) ι) : bC sc 162 [br 13 0] ι (bk1 K H) := by
  have w : ∀ n, 4 ≤ n → n ≤ 10 → 0 ≤ ι 69 0 n ∧ ι 69 0 n ≤ 32 := fun n a b => (hw.2 n a b).2
  have w4 := w 4 (by omega) (by omega)
  have w5 := w (4 + 1) (by omega) (by omega)
  have w6 := w (4 + 1 + 1) (by omega) (by omega)
  have w7 := w (4 + 1 + 1 + 1) (by omega) (by omega)
  have w8 := w (4 + 1 + 1 + 1 + 1) (by omega) (by omega)
  have w9 := w (4 + 1 + 1 + 1 + 1 + 1) (by omega) (by omega)
  have w10 := w (4 + 1 + 1 + 1 + 1 + 1 + 1) (by omega) (by omega)
  refine e_M_allWords_0 ?_
  refine e_M_allWords_4 (bif_f (by omega) ⟨by omega, by omega, by omega, ?_⟩)
  refine e_M_allWords_4 (bif_f (by omega) ⟨by omega, by omega, by omega, ?_⟩)
  refine e_M_allWords_4 (bif_f (by omega) ⟨by omega, by omega, by omega, ?_⟩)
  refine e_M_allWords_4 (bif_f (by omega) ⟨by omega, by omega, by omega, ?_⟩)
  refine e_M_allWords_4 (bif_f (by omega) ⟨by omega, by omega, by omega, ?_⟩)
  refine e_M_allWords_4 (bif_f (by omega) ⟨by omega, by omega, by omega, ?_⟩)
  refine e_M_allWords_4 (bif_f (by omega) ⟨by omega, by omega, by omega, ?_⟩)
  exact e_M_allWords_4 (bif_t (by omega) h)
theorem sumw_ext {f g : Int → Int} (h : ∀ n, 4 ≤ n → n ≤ 10 → f n = g n) : sumw f = sumw g := by
  unfold sumw
  rw [h 4 (by omega) (by omega), h (4 + 1) (by omega) (by omega), h (4 + 1 + 1) (by omega) (by omega), h (4 + 1 + 1 + 1) (by omega) (by omega), h (4 + 1 + 1 + 1 + 1) (by omega) (by omega), h (4 + 1 + 1 + 1 + 1 + 1) (by omega) (by omega), h (4 + 1 + 1 + 1 + 1 + 1 + 1) (by omega) (by omega)]
theorem Jw.m69 (hw : Jw ι) : ∀ n, 4 ≤ n → n ≤ 10 → ι 65 0 n = ι 69 0 n := fun n a b => (hw.2 n a b).1
theorem m_clear12 {K : Int → bm_S → Prop} {r : Int} : ∀ (m : Nat) (k : Int) (ι : bm_S), k = 11 - m → 4 ≤ k → (∀ ι', (∀ j, k ≤ j → j ≤ 10 → ι' 69 0 j = 0) → (∀ j, j < k → ι' 69 0 j = ι 69 0 j) → Fr (fun t _ _ => t = 69) ι ι' → K r ι') → bW sc 163 12 [br 13 0, bi r, bi k] [] ι (bk1 K H)
  | 0, k, ι, hk, h0, h => e_M_clear_12 (bif_t (by omega) (h ι (fun j j0 j1 => by omega) (fun j _ => rfl) (Fr.refl _ _)))
  | m + 1, k, ι, hk, h0, h => e_M_clear_12 (bif_f (by omega) ⟨by omega, by omega, m_clear12 m (k + 1) _ (by omega) (by omega) (fun ι' g1 g2 g3 => h ι' (fun j j0 j1 => by
      by_cases q : j = k
      · rw [g2 j (by omega), q, up_s]
      · exact g1 j (by omega) j1) (fun j j0 => by rw [g2 j (by omega), up_j (by omega)]) (((Fr.refl _ _).u rfl).trans g3))⟩)
theorem p_clear (hR : ∀ ι ι', Fr sf ι ι' → Rest ι → Rest ι') (hJ : Jn Rest ι) : Pair sc 127 163 [] ι (Jn Rest) := by
  obtain ⟨ht, hm, hw, hr⟩ := hJ
  refine e_X_clear_0 (s_all hw (e_W_forget_0 (s_fill_65 fun ι1 g1 g2 => ?_)))
  have w1 : ∀ n, 4 ≤ n → n ≤ 10 → ι1 69 0 n = ι 69 0 n := fun n _ _ => g2 69 0 n (by omega)
  refine e_M_clear_0 ?_
  have hw' : Jw (up ι1 13 0 0 0) → False ∨ True := fun _ => Or.inr trivial
  -- the other counts as they were
  have w : ∀ n, 4 ≤ n → n ≤ 10 → 0 ≤ up ι1 13 0 0 0 69 0 n ∧ up ι1 13 0 0 0 69 0 n ≤ 32 := fun n a b => by
    rw [up_k (by decide), w1 n a b]; exact (hw.2 n a b).2
  have allm : ∀ {K : Int → bm_S → Prop}, K (sumw (up ι1 13 0 0 0 69 0)) (up ι1 13 0 0 0) → bC sc 162 [br 13 0] (up ι1 13 0 0 0) (bk1 K (fun _ _ => False)) := by
    intro K h
    have w4 := w 4 (by omega) (by omega)
    have w5 := w (4 + 1) (by omega) (by omega)
    have w6 := w (4 + 1 + 1) (by omega) (by omega)
    have w7 := w (4 + 1 + 1 + 1) (by omega) (by omega)
    have w8 := w (4 + 1 + 1 + 1 + 1) (by omega) (by omega)
    have w9 := w (4 + 1 + 1 + 1 + 1 + 1) (by omega) (by omega)
    have w10 := w (4 + 1 + 1 + 1 + 1 + 1 + 1) (by omega) (by omega)
    refine e_M_allWords_0 ?_
    refine e_M_allWords_4 (bif_f (by omega) ⟨by omega, by omega, by omega, ?_⟩)
    refine e_M_allWords_4 (bif_f (by omega) ⟨by omega, by omega, by omega, ?_⟩)
    refine e_M_allWords_4 (bif_f (by omega) ⟨by omega, by omega, by omega, ?_⟩)
    refine e_M_allWords_4 (bif_f (by omega) ⟨by omega, by omega, by omega, ?_⟩)
    refine e_M_allWords_4 (bif_f (by omega) ⟨by omega, by omega, by omega, ?_⟩)
    refine e_M_allWords_4 (bif_f (by omega) ⟨by omega, by omega, by omega, ?_⟩)
    refine e_M_allWords_4 (bif_f (by omega) ⟨by omega, by omega, by omega, ?_⟩)
    exact e_M_allWords_4 (bif_t (by omega) h)
  refine allm (m_clear12 7 4 _ (by omega) (by omega) fun ι' k1 k2 k3 => ?_)
  have G : Fr (fun t _ j => t = 65 ∨ t = 69 ∨ t = 13 ∧ j = 0) ι ι' := ((g2.wide fun t i j q => by omega).u (by omega)).trans (k3.wide fun t i j q => by omega)
  refine ⟨sumw_ext fun n a b => ?_, ?_, hm.to G (fun j => by omega), ⟨fun k k0 kk => ?_, fun n a b => ?_⟩, hR _ _ (G.wide fun t i j q => by unfold sf; omega) hr⟩
  · rw [up_k (by decide), w1 n a b, hw.m69 n a b]
  · unfold Jt at ht ⊢
    rw [G 2 0 1 (by omega), G 2 0 2 (by omega), G 13 0 3 (by omega), G 13 0 4 (by omega), show ι' 20 0 = ι 20 0 from funext fun j => G 20 0 j (by omega), show ι' 66 0 = ι 66 0 from funext fun j => G 66 0 j (by omega)]
    exact ht
  · rw [G 64 0 k (by omega), G 68 0 k (by omega)]
    exact hw.1 k k0 kk
  · rw [k1 n a b, k3 65 0 n (by omega), up_k (by decide), g1 n (by omega) (by omega)]
    omega
/-- the digest -/
def dgk (g : Int → Int) (b : Int) : Nat → Int → Int → Int
  | 0, _, h => h
  | m + 1, k, h => dgk g b m (k + 1) (bm_xor (33 * h) (g (b + k) % 256) % 65536)
def dgw (g : Int → Int) (n : Int) : Nat → Int → Int → Int
  | 0, _, h => h
  | m + 1, w, h => dgw g n m (w + 1) (dgk g (320 * (n - 4) + 10 * w) n.toNat 0 h)
def dgn (g c : Int → Int) : Nat → Int → Int → Int
  | 0, _, h => h
  | m + 1, n, h => dgn g c m (n + 1) (dgw g n (c n).toNat 0 (bm_xor (33 * h) (c n) % 65536))
def dg (g c : Int → Int) : Int := dgn g c 7 4 5381
theorem dgk_ext {g g' : Int → Int} {b : Int} : ∀ (m : Nat) (k h : Int), (∀ j, k ≤ j → j < k + m → g (b + j) = g' (b + j)) → dgk g b m k h = dgk g' b m k h
  | 0, _, _, _ => rfl
  | m + 1, k, h, e => by
    unfold dgk
    rw [e k (by omega) (by omega)]
    exact dgk_ext m _ _ (fun j a b => e j (by omega) (by omega))
theorem dgw_ext {g g' : Int → Int} {n : Int} (hn : 4 ≤ n ∧ n ≤ 10) : ∀ (m : Nat) (w h : Int), 0 ≤ w → w + m ≤ 32 → (∀ k, 0 ≤ k → k < 2240 → g k = g' k) → dgw g n m w h = dgw g' n m w h
  | 0, _, _, _, _, _ => rfl
  | m + 1, w, h, h0, h1, e => by
    unfold dgw
    rw [dgk_ext n.toNat 0 h (fun j a b => e _ (by omega) (by omega))]
    exact dgw_ext hn m _ _ (by omega) (by omega) e
theorem dgn_ext {g g' c c' : Int → Int} (hg : ∀ k, 0 ≤ k → k < 2240 → g k = g' k) : ∀ (m : Nat) (n h : Int), 4 ≤ n → n + m ≤ 11 → (∀ n, 4 ≤ n → n ≤ 10 → c n = c' n ∧ 0 ≤ c' n ∧ c' n ≤ 32) → dgn g c m n h = dgn g' c' m n h
  | 0, _, _, _, _, _ => rfl
  | m + 1, n, h, h0, h1, e => by
    unfold dgn
    have := e n h0 (by omega)
    rw [this.1, dgw_ext ⟨h0, by omega⟩ _ 0 _ (by omega) (by omega) hg]
    exact dgn_ext hg m _ _ (by omega) (by omega) e
theorem dg_ext {g g' c c' : Int → Int} (h : Iw g g' c c') : dg g c = dg g' c' := dgn_ext (fun k a b => (h.1 k a b).1) 7 4 5381 (by omega) (by omega) h.2
theorem dgk_rg {g : Int → Int} {b : Int} : ∀ (m : Nat) (k h : Int), 0 ≤ h → h < 65536 → 0 ≤ dgk g b m k h ∧ dgk g b m k h < 65536
  | 0, _, _, a, b => ⟨a, b⟩
  | m + 1, k, h, a, b => dgk_rg m _ _ (by omega) (by omega)
theorem dgw_rg {g : Int → Int} {n : Int} : ∀ (m : Nat) (k h : Int), 0 ≤ h → h < 65536 → 0 ≤ dgw g n m k h ∧ dgw g n m k h < 65536
  | 0, _, _, a, b => ⟨a, b⟩
  | m + 1, k, h, a, b => by
    have := dgk_rg (g := g) (b := 320 * (n - 4) + 10 * k) n.toNat 0 h a b
    exact dgw_rg m _ _ this.1 this.2
theorem dgn_rg {g c : Int → Int} : ∀ (m : Nat) (n h : Int), 0 ≤ h → h < 65536 → 0 ≤ dgn g c m n h ∧ dgn g c m n h < 65536
  | 0, _, _, a, b => ⟨a, b⟩
  | m + 1, n, h, a, b => by
    have := dgw_rg (g := g) (n := n) (c n).toNat 0 (bm_xor (33 * h) (c n) % 65536) (by omega) (by omega)
    exact dgn_rg m _ _ this.1 this.2
theorem dg_rg (g c : Int → Int) : 0 ≤ dg g c ∧ dg g c < 65536 := dgn_rg 7 4 5381 (by omega) (by omega)
theorem m_wordAt {K : Int → bm_S → Prop} {x y : Int} {v : bm_V} (hx : 4 ≤ x ∧ x ≤ 10) (hy : 0 ≤ y ∧ y ≤ 32) (h : K (320 * (x - 4) + 10 * y) ι) : bC sc 160 [v, bi x, bi y] ι (bk1 K H) := e_M_wordAt_0 ⟨by omega, by omega, by omega, by omega, h⟩
theorem m_dg42 {Q : bm_O → bm_S → Prop} {n w : Int} (hn : 4 ≤ n ∧ n ≤ 10) (hw : 0 ≤ w ∧ w < 32) : ∀ (m : Nat) (h k : Int), k = n - m → 0 ≤ k → 0 ≤ h → h < 65536 →
    (bW sc 164 29 [br 13 0, bi (dgk (ι 68 0) (320 * (n - 4) + 10 * w) m k h), bi n, bi (w + 1), bi n] [] ι Q) → bW sc 164 42 [br 13 0, bi h, bi n, bi w, bi k] [] ι Q
  | 0, h, k, hk, h0, h1, h2, hh => by
    have e : k = n := by omega
    subst e
    exact e_M_digestNow_42 (bif_t (by omega) ⟨by omega, hh⟩)
  | m + 1, h, k, hk, h0, h1, h2, hh => by
    refine e_M_digestNow_42 (bif_f (by omega) ⟨by omega, m_wordAt hn (by omega) ⟨by omega, by omega, by omega, ?_⟩⟩)
    exact m_dg42 hn hw m _ (k + 1) (by omega) (by omega) (by omega) (by omega) hh
theorem m_dg29 {Q : bm_O → bm_S → Prop} {n : Int} (hn : 4 ≤ n ∧ n ≤ 10) (hc : 0 ≤ ι 69 0 n ∧ ι 69 0 n ≤ 32) : ∀ (m : Nat) (h w : Int) (v : bm_V), w = ι 69 0 n - m → 0 ≤ w → 0 ≤ h → h < 65536 →
    (∀ v, bW sc 164 6 [br 13 0, bi (dgw (ι 68 0) n m w h), bi (n + 1), bi (ι 69 0 n), v] [] ι Q) → bW sc 164 29 [br 13 0, bi h, bi n, bi w, v] [] ι Q
  | 0, h, w, v, hk, h0, h1, h2, hh => by
    have e : w = ι 69 0 n := by omega
    subst e
    exact e_M_digestNow_29 ⟨by omega, bif_t (by omega) ⟨by omega, hh v⟩⟩
  | m + 1, h, w, v, hk, h0, h1, h2, hh => by
    refine e_M_digestNow_29 ⟨by omega, bif_f (by omega) (m_dg42 hn (by omega) n.toNat h 0 (by omega) (by omega) h1 h2 ?_)⟩
    have := dgk_rg (g := ι 68 0) (b := 320 * (n - 4) + 10 * w) n.toNat 0 h h1 h2
    exact m_dg29 hn hc m _ (w + 1) _ (by omega) (by omega) this.1 this.2 hh
theorem m_dg6 {K : Int → bm_S → Prop} (hc : ∀ n, 4 ≤ n → n ≤ 10 → 0 ≤ ι 69 0 n ∧ ι 69 0 n ≤ 32) : ∀ (m : Nat) (h n : Int) (v v' : bm_V), n = 11 - m → 4 ≤ n → 0 ≤ h → h < 65536 → K (dgn (ι 68 0) (ι 69 0) m n h) ι → bW sc 164 6 [br 13 0, bi h, bi n, v, v'] [] ι (bk1 K H)
  | 0, h, n, v, v', hk, h0, h1, h2, hh => e_M_digestNow_6 (bif_t (by omega) hh)
  | m + 1, h, n, v, v', hk, h0, h1, h2, hh => by
    refine e_M_digestNow_6 (bif_f (by omega) ⟨by omega, by omega, ?_⟩)
    have hcn := hc n h0 (by omega)
    refine m_dg29 ⟨h0, by omega⟩ hcn (ι 69 0 n).toNat _ 0 _ (by omega) (by omega) (by omega) (by omega) fun v => ?_
    have := dgw_rg (g := ι 68 0) (n := n) (ι 69 0 n).toNat 0 (bm_xor (33 * h) (ι 69 0 n) % 65536) (by omega) (by omega)
    exact m_dg6 hc m _ (n + 1) _ _ (by omega) (by omega) this.1 this.2 hh
theorem m_digestNow {K : Int → bm_S → Prop} (hc : ∀ n, 4 ≤ n → n ≤ 10 → 0 ≤ ι 69 0 n ∧ ι 69 0 n ≤ 32) (h : K (dg (ι 68 0) (ι 69 0)) ι) : bC sc 164 [br 13 0] ι (bk1 K H) :=
  e_M_digestNow_0 (m_dg6 hc 7 5381 4 _ _ (by omega) (by omega) (by omega) (by omega) h)
/-- a byte of a core -/
def cby (g : Int → Int) (n w how i : Int) : Int := if (how = 2 ∨ how = 1 ∧ i = 0) ∧ 97 ≤ g (320 * (n - 4) + 10 * w + i) ∧ g (320 * (n - 4) + 10 * w + i) ≤ 122 then g (320 * (n - 4) + 10 * w + i) - 32 else g (320 * (n - 4) + 10 * w + i + (if how = 3 then 1 else 0))
theorem s_coreByte {K : Int → bm_S → Prop} {n w how i : Int} (hn : 4 ≤ n ∧ n ≤ 10) (hw : 0 ≤ w ∧ w < 32) (hi : 0 ≤ i ∧ i < 10) (hi3 : how = 3 → i < 9) (hh : 0 ≤ how) (hb : ∀ k, 0 ≤ k → k < 2240 → -128 ≤ ι 64 0 k ∧ ι 64 0 k < 128) (h : K (cby (ι 64 0) n w how i % 256) ι) : bC sc 116 [br 10 0, bi n, bi w, bi how, bi i] ι (bk1 K H) := by
  have key : ∀ p, p = 320 * (n - 4) + 10 * w + i + (if how = 3 then 1 else 0) → 0 ≤ p ∧ p < 2240 → bW sc 116 24 [br 10 0, bi n, bi w, bi how, bi i, bi p, bu, bu] [] ι (bk1 K H) := by
    intro p hp hp2
    have hr := hb p hp2.1 hp2.2
    have e0 : how ≠ 3 → p = 320 * (n - 4) + 10 * w + i := fun q => by rw [if_neg q] at hp; omega
    unfold cby at h
    rw [← hp] at h
    refine e_W_coreByte_24 (bif_f (by omega) (bif_t (by omega) ⟨by omega, (bif_i (fun h1 => (bif_i (fun h2 => ?_) (fun h2 => (bif_i (fun h3 => ?_) (fun h3 => ⟨by omega, ?_⟩))))) (fun h1 => (bif_i (fun h2 => (bif_i (fun h3 => (bif_i (fun h4 => ?_) (fun h4 => (bif_i (fun h5 => ?_) (fun h5 => ⟨by omega, ?_⟩))))) (fun h3 => ?_))) (fun h2 => ?_))))⟩))
    · rw [← e0 (by omega), if_neg (by omega)] at h; exact h
    · rw [← e0 (by omega), if_neg (by omega)] at h; exact h
    · rw [← e0 (by omega), if_pos (by omega), show (ι 64 0 p - 32) % 256 = ι 64 0 p % 256 - 32 by omega] at h; exact h
    · rw [← e0 (by omega), if_neg (by omega)] at h; exact h
    · rw [← e0 (by omega), if_neg (by omega)] at h; exact h
    · rw [← e0 (by omega), if_pos (by omega), show (ι 64 0 p - 32) % 256 = ι 64 0 p % 256 - 32 by omega] at h; exact h
    · rw [if_neg (by omega)] at h; exact h
    · rw [if_neg (by omega)] at h; exact h
  refine e_W_coreByte_0 ⟨by omega, by omega, by omega, by omega, by omega, bif_i (fun h1 => ⟨by omega, key _ ?_ (by omega)⟩) (fun h1 => key _ ?_ (by omega))⟩
  · rw [if_pos h1]; omega
  · rw [if_neg h1]; omega
theorem x_dg42 {Q : bm_O → bm_S → Prop} {n w : Int} (hn : 4 ≤ n ∧ n ≤ 10) (hw : 0 ≤ w ∧ w < 32) (hb : ∀ k, 0 ≤ k → k < 2240 → -128 ≤ ι 64 0 k ∧ ι 64 0 k < 128) : ∀ (m : Nat) (h k : Int), k = n - m → 0 ≤ k → 0 ≤ h → h < 65536 →
    (bW sc 114 29 [br 10 0, bi (dgk (ι 64 0) (320 * (n - 4) + 10 * w) m k h), bi n, bi (w + 1), bi n] [] ι Q) → bW sc 114 42 [br 10 0, bi h, bi n, bi w, bi k] [] ι Q
  | 0, h, k, hk, h0, h1, h2, hh => by
    have e : k = n := by omega
    subst e
    exact e_W_digestOfAll_42 (bif_t (by omega) ⟨by omega, hh⟩)
  | m + 1, h, k, hk, h0, h1, h2, hh => by
    refine e_W_digestOfAll_42 (bif_f (by omega) ⟨by omega, s_coreByte hn (by omega) (by omega) (by omega) (by omega) hb ⟨by omega, ?_⟩⟩)
    have e : cby (ι 64 0) n w 0 k = ι 64 0 (320 * (n - 4) + 10 * w + k) := by
      unfold cby
      rw [if_neg (by omega), if_neg (by omega), show 320 * (n - 4) + 10 * w + k + 0 = 320 * (n - 4) + 10 * w + k by omega]
    rw [e]
    exact x_dg42 hn hw hb m _ (k + 1) (by omega) (by omega) (by omega) (by omega) hh
theorem x_dg29 {Q : bm_O → bm_S → Prop} {n : Int} (hn : 4 ≤ n ∧ n ≤ 10) (hc : 0 ≤ ι 65 0 n ∧ ι 65 0 n ≤ 32) (hb : ∀ k, 0 ≤ k → k < 2240 → -128 ≤ ι 64 0 k ∧ ι 64 0 k < 128) : ∀ (m : Nat) (h w : Int) (v : bm_V), w = ι 65 0 n - m → 0 ≤ w → 0 ≤ h → h < 65536 →
    (∀ v, bW sc 114 6 [br 10 0, bi (dgw (ι 64 0) n m w h), bi (n + 1), bi (ι 65 0 n), v] [] ι Q) → bW sc 114 29 [br 10 0, bi h, bi n, bi w, v] [] ι Q
  | 0, h, w, v, hk, h0, h1, h2, hh => by
    have e : w = ι 65 0 n := by omega
    subst e
    exact e_W_digestOfAll_29 ⟨by omega, bif_t (by omega) ⟨by omega, hh v⟩⟩
  | m + 1, h, w, v, hk, h0, h1, h2, hh => by
    refine e_W_digestOfAll_29 ⟨by omega, bif_f (by omega) (x_dg42 hn (by omega) hb n.toNat h 0 (by omega) (by omega) h1 h2 ?_)⟩
    have := dgk_rg (g := ι 64 0) (b := 320 * (n - 4) + 10 * w) n.toNat 0 h h1 h2
    exact x_dg29 hn hc hb m _ (w + 1) _ (by omega) (by omega) this.1 this.2 hh
theorem x_dg6 {K : Int → bm_S → Prop} (hc : ∀ n, 4 ≤ n → n ≤ 10 → 0 ≤ ι 65 0 n ∧ ι 65 0 n ≤ 32) (hb : ∀ k, 0 ≤ k → k < 2240 → -128 ≤ ι 64 0 k ∧ ι 64 0 k < 128) : ∀ (m : Nat) (h n : Int) (v v' : bm_V), n = 11 - m → 4 ≤ n → 0 ≤ h → h < 65536 → K (dgn (ι 64 0) (ι 65 0) m n h) ι → bW sc 114 6 [br 10 0, bi h, bi n, v, v'] [] ι (bk1 K H)
  | 0, h, n, v, v', hk, h0, h1, h2, hh => e_W_digestOfAll_6 (bif_t (by omega) hh)
  | m + 1, h, n, v, v', hk, h0, h1, h2, hh => by
    refine e_W_digestOfAll_6 (bif_f (by omega) ⟨by omega, by omega, ?_⟩)
    have hcn := hc n h0 (by omega)
    refine x_dg29 ⟨h0, by omega⟩ hcn hb (ι 65 0 n).toNat _ 0 _ (by omega) (by omega) (by omega) (by omega) fun v => ?_
    have := dgw_rg (g := ι 64 0) (n := n) (ι 65 0 n).toNat 0 (bm_xor (33 * h) (ι 65 0 n) % 65536) (by omega) (by omega)
    exact x_dg6 hc hb m _ (n + 1) _ _ (by omega) (by omega) this.1 this.2 hh
theorem Jw.b64 (hw : Jw ι) : ∀ k, 0 ≤ k → k < 2240 → -128 ≤ ι 64 0 k ∧ ι 64 0 k < 128 := fun k a b => by have := hw.1 k a b; omega
theorem Jw.c65 (hw : Jw ι) : ∀ n, 4 ≤ n → n ≤ 10 → 0 ≤ ι 65 0 n ∧ ι 65 0 n ≤ 32 := fun n a b => by have := hw.2 n a b; omega
theorem Jw.c69 (hw : Jw ι) : ∀ n, 4 ≤ n → n ≤ 10 → 0 ≤ ι 69 0 n ∧ ι 69 0 n ≤ 32 := fun n a b => (hw.2 n a b).2
theorem s_digestOfAll {K : Int → bm_S → Prop} (hw : Jw ι) (h : K (dg (ι 64 0) (ι 65 0)) ι) : bC sc 114 [br 10 0] ι (bk1 K H) :=
  e_W_digestOfAll_0 (x_dg6 hw.c65 hw.b64 7 5381 4 _ _ (by omega) (by omega) (by omega) (by omega) h)
theorem p_digest (hR : ∀ ι ι', Fr sf ι ι' → Rest ι → Rest ι') (hJ : Jn Rest ι) : Pair sc 128 165 [] ι (Jn Rest) := by
  obtain ⟨ht, hm, hw, hr⟩ := hJ
  refine e_X_digest_0 (s_digestOfAll hw (e_M_digest_0 (m_digestNow (ι := up ι 13 0 0 0) hw.c69 ?_)))
  exact ⟨dg_ext hw, ht, hm, hw, hR _ _ ((Fr.refl sf ι).u (by unfold sf; omega)) hr⟩
end WordMethods
