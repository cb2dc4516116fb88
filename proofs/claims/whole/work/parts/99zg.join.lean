/-! pack: comp joins, and finds how deep -/
section Joining
variable {sc : bm_Sc} {n0 a n : Int} {v : Int → Int}
theorem ht_b (h : VR v n) {u : Nat} (hu : (u : Int) + 2 < 2 * n) : 1 ≤ (ht v n (u + 1)).2 (n + (u : Int) / 2) ∧ (ht v n (u + 1)).2 (n + (u : Int) / 2) ≤ sm v 0 n := by
  have hI := h.HI (u := u + 1) (by omega)
  have hS := (SC_all h (u + 1) (by omega)).1
  have h1 := hI.1
  have hjx : n + ((u + 1 : Nat) : Int) - (ht v n (u + 1)).1 ≤ n + (u : Int) / 2 := by
    have hI1 := h.HI (u := u) (by omega)
    have hor := tn_or (by omega) hI1
    have a1 := hI1.1
    have e1 := ht_i (v := v) (n := n) u
    rcases hor with ⟨e, a, b⟩ | ⟨e, a, b, c⟩
    · rw [e, if_pos a] at e1; omega
    · rw [e, if_neg (by omega)] at e1; omega
  refine ⟨hI.2.2.2.1 _ (by omega) (by omega), ?_⟩
  unfold SI at hS
  rw [show n + ((u + 1 : Nat) : Int) / 2 + ((u + 1 : Nat) : Int) % 2 = n + (u : Int) / 2 + 1 by omega, sm_r hjx] at hS
  have g1 := sm_ge (f := (ht v n (u + 1)).2) (b := 0) (lo := (ht v n (u + 1)).1) (hi := n) h1.2.1 (fun k x y => by rw [hI.2.1 k y]; have := h.2.1 k (by omega) y; omega)
  have g2 := sm_ge (f := (ht v n (u + 1)).2) (b := 0) (lo := n + ((u + 1 : Nat) : Int) - (ht v n (u + 1)).1) (hi := n + (u : Int) / 2) hjx (fun k x y => by have := hI.2.2.2.1 k (by omega) (by omega); omega)
  rw [Int.mul_zero] at g1 g2
  omega
def tkn (v : Int → Int) (n : Int) (u : Nat) (k : Int) : Prop := (0 ≤ k ∧ k < (ht v n u).1) ∨ (n ≤ k ∧ k < n + u - (ht v n u).1)
abbrev fJn (n0 : Int) (t : Nat) (i _ : Int) : Prop := (t = 32 ∨ t = 33) ∧ i = n0
theorem s_take {Q : bm_O → bm_S → Prop} {u : Nat} {ι : bm_S} {v5 v6 : bm_V} {i j x e : Int} (hL : CWL n0 a) (ha : a ≤ 704) (hn : n ≤ a) (h : VR v n) (hS : sm v 0 n ≤ 1000000) (hu : (u : Int) + 2 < 2 * n) (hi : i = (ht v n u).1) (hj : j = n + u - i) (hx : x = n + (u : Int) / 2) (he : e = (u : Int) % 2) (h9 : ι 5 n0 9 = n) (h32 : ∀ k, 0 ≤ k → k < x → ι 32 n0 k = (ht v n u).2 k) (h32x : ι 32 n0 x = if (u : Int) % 2 = 0 then 0 else (ht v n u).2 x) (h33 : ∀ k, tkn v n u k → ι 33 n0 k = hpr v n u k)
    (hK : ∀ (ι' : bm_S) (v5 v6 : bm_V), (∀ k, 0 ≤ k → k ≤ x → ι' 32 n0 k = (ht v n (u + 1)).2 k) → (∀ k, tkn v n (u + 1) k → ι' 33 n0 k = hpr v n (u + 1) k) → Fr (fJn n0) ι ι' → bW sc 43 67 [br 5 n0, bi (ht v n (u + 1)).1, bi (n + ((u + 1 : Nat) : Int) - (ht v n (u + 1)).1), bi x, bi (e + 1), v5, v6] [] ι' Q) :
    bW sc 43 67 [br 5 n0, bi i, bi j, bi x, bi e, v5, v6] [] ι Q := by
  have hI := h.HI (u := u) (by omega)
  have hor := tn_or (by omega) hI
  have h1 := hI.1
  have hb := ht_b h hu
  have e1 := ht_i (v := v) (n := n) u
  have eW := ht_W (v := v) (n := n) u
  have et : tw v n u = (ht v n u).2 (tn v n u) := rfl
  obtain ⟨l1, -, -, -, -, -, l32, l33, -⟩ := hL
  rw [← hi, ← hj, ← hx] at hor
  rw [← hi] at h1 e1
  rw [← hx] at eW hb
  obtain ⟨c, hc⟩ : ∃ c, c = tn v n u := ⟨_, rfl⟩
  rw [← hc] at hor e1 et
  have hcx : 0 ≤ c ∧ c < x := by rcases hor with ⟨e, a, b⟩ | ⟨e, a, b, d⟩ <;> omega
  have hsum : ι 32 n0 x + ι 32 n0 c = (ht v n (u + 1)).2 x := by
    rw [h32x, h32 c hcx.1 hcx.2, eW, fu_s, et]
  have fin : ∀ v5 v6 : bm_V, bW sc 43 67 [br 5 n0, bi (ht v n (u + 1)).1, bi (n + ((u + 1 : Nat) : Int) - (ht v n (u + 1)).1), bi x, bi (e + 1), v5, v6] [] (up (up ι 32 n0 x (ι 32 n0 x + ι 32 n0 c)) 33 n0 c x) Q := fun v5 v6 => by
    refine hK _ _ _ (fun k k0 k1 => ?_) (fun k hk => ?_) (((Fr.refl _ _).u (by omega)).u (by omega))
    · rw [up_k (by decide)]
      by_cases z : k = x
      · rw [z, up_s]; exact hsum
      · rw [up_j z, eW, fu_n z]; exact h32 k k0 (by omega)
    · show _ = fu (hpr v n u) (tn v n u) (n + (u : Int) / 2) k
      rw [← hc, ← hx]
      by_cases z : k = c
      · rw [z, up_s, fu_s]
      · rw [up_j z, up_k (by decide), fu_n z]
        refine h33 k ?_
        unfold tkn at hk ⊢
        rcases hor with ⟨e, a, b⟩ | ⟨e, a, b, d⟩
        · rw [e, if_pos a] at e1; omega
        · rw [e, if_neg (by omega)] at e1; omega
  refine e_CW_joinAll_67 (bif_f (by omega) ?_)
  rw [l32, l33, h9]
  rcases hor with ⟨ec, ai, b⟩ | ⟨ec, aj, b, d⟩
  · have e2 : (ht v n (u + 1)).1 = i + 1 := by rw [e1, ec, if_pos ai]
    have fin' := fin (bi 1) (bi i)
    rw [e2, show n + ((u + 1 : Nat) : Int) - (i + 1) = j by omega, ec] at fin'
    rw [ec] at hsum
    refine bif_i (fun z => ⟨by omega, by omega, by omega, by rw [hsum]; omega, by omega, by omega, by omega, fin'⟩) (fun z => bif_f (by omega) ⟨by omega, by omega, bif_f ?_ ⟨by omega, by omega, by omega, by rw [hsum]; omega, by omega, by omega, by omega, fin'⟩⟩)
    rw [h32 j (by omega) (by omega), h32 i (by omega) (by omega)]
    have := b (by omega)
    omega
  · have e2 : (ht v n (u + 1)).1 = i := by rw [e1, ec, if_neg (by omega)]
    have fin' := fin (bi 0) (bi j)
    rw [e2, show n + ((u + 1 : Nat) : Int) - i = j + 1 by omega, ec] at fin'
    rw [ec] at hsum
    refine bif_f (by omega) (bif_i (fun z => ⟨by omega, by omega, by omega, by rw [hsum]; omega, by omega, by omega, by omega, fin'⟩) (fun z => ⟨by omega, by omega, bif_t ?_ ⟨by omega, by omega, by omega, by rw [hsum]; omega, by omega, by omega, by omega, fin'⟩⟩))
    rw [h32 j (by omega) (by omega), h32 i (by omega) (by omega)]
    exact d (by omega)
theorem s_join45 {K : bm_S → Prop} {H : Nat × Int → bm_S → Prop} (hL : CWL n0 a) (ha : a ≤ 704) (hn : n ≤ a) (h : VR v n) (hS : sm v 0 n ≤ 1000000) : ∀ (m t : Nat) (i j : Int) (ι : bm_S) (v4 v5 v6 : bm_V), (t : Int) + 1 + m = n → i = (ht v n (2 * t)).1 → j = n + ((2 * t : Nat) : Int) - i → ι 5 n0 9 = n → (∀ k, 0 ≤ k → k < n + t → ι 32 n0 k = (ht v n (2 * t)).2 k) → (∀ k, tkn v n (2 * t) k → ι 33 n0 k = hpr v n (2 * t) k) →
    (∀ ι' : bm_S, (∀ k, 0 ≤ k → k < 2 * n - 2 → ι' 33 n0 k = hP v n k) → Fr (fJn n0) ι ι' → K ι') → bW sc 43 45 [br 5 n0, bi i, bi j, bi (n + t), v4, v5, v6] [] ι (bk0 K H)
  | 0, t, i, j, ι, v4, v5, v6, ht1, hi, hj, h9, h32, h33, hK => by
    refine e_CW_joinAll_45 ?_
    rw [h9]
    have e2 : 2 * t = (2 * n - 2).toNat := by omega
    rw [e2] at h33
    refine ⟨by omega, by omega, bif_t (by omega) (hK ι (fun k k0 k1 => ?_) (Fr.refl _ _))⟩
    refine h33 k ?_
    unfold tkn
    rw [ht_end h]; omega
  | m + 1, t, i, j, ι, v4, v5, v6, ht1, hi, hj, h9, h32, h33, hK => by
    have hI := (h.HI (u := 2 * t) (by omega)).1
    have hl := hL.2.2.2.2.2.2.1
    refine e_CW_joinAll_45 ?_
    rw [h9, hl]
    refine ⟨by omega, by omega, bif_f (by omega) ⟨by omega, ?_⟩⟩
    have F1 : Fr (fJn n0) ι (up ι 32 n0 (n + t) 0) := (Fr.refl _ _).u (by omega)
    refine s_take (u := 2 * t) (e := 0) hL ha hn h hS (by omega) hi hj (by omega) (by omega) (by rw [F1 5 n0 9 (by omega)]; exact h9) (fun k k0 k1 => by rw [up_j (by omega)]; exact h32 k k0 k1) (by rw [up_s, if_pos (by omega)]) (fun k hk => by rw [up_k (by decide)]; exact h33 k hk) (fun ι2 w5 w6 b32 b33 F2 => ?_)
    refine s_take (u := 2 * t + 1) (e := 0 + 1) hL ha hn h hS (by omega) rfl rfl (by omega) (by omega) (by rw [F2 5 n0 9 (by omega), F1 5 n0 9 (by omega)]; exact h9) (fun k k0 k1 => b32 k k0 (by omega)) (by rw [if_neg (by omega)]; exact b32 _ (by omega) (by omega)) b33 (fun ι3 w5 w6 c32 c33 F3 => ?_)
    refine e_CW_joinAll_67 (bif_t (by omega) ⟨by omega, ?_⟩)
    rw [show n + (t : Int) + 1 = n + ((t + 1 : Nat) : Int) by omega]
    exact s_join45 hL ha hn h hS m (t + 1) _ _ ι3 _ _ _ (by omega) rfl rfl (by rw [F3 5 n0 9 (by omega), F2 5 n0 9 (by omega), F1 5 n0 9 (by omega)]; exact h9) (fun k k0 k1 => c32 k k0 (by omega)) c33 (fun ι' b F4 => hK ι' b (((F1.trans F2).trans F3).trans F4))
theorem s_join2 {K : bm_S → Prop} {H : Nat × Int → bm_S → Prop} {w o : Int → Int} (hL : CWL n0 a) (ha : a ≤ 704) (hn : n ≤ a) (ho : ∀ k, 0 ≤ k → k < n → 0 ≤ o k ∧ o k < a) : ∀ (m k : Nat) (ι : bm_S) (v2 v3 v4 v5 v6 : bm_V), (k : Int) + m = n → ι 5 n0 9 = n → WgC ι n0 a w → (∀ k, 0 ≤ k → k < n → ι 29 n0 k = o k) → (∀ q, 0 ≤ q → q < (k : Int) → ι 32 n0 q = w (o q)) →
    (∀ (ι' : bm_S) (v4 v5 v6 : bm_V), (∀ q, 0 ≤ q → q < n → ι' 32 n0 q = w (o q)) → Fr (fJn n0) ι ι' → bW sc 43 45 [br 5 n0, bi 0, bi n, bi n, v4, v5, v6] [] ι' (bk0 K H)) → bW sc 43 2 [br 5 n0, bi (k : Int), v2, v3, v4, v5, v6] [] ι (bk0 K H)
  | 0, k, ι, v2, v3, v4, v5, v6, hk, h9, hw, hr, h32, h => by
    refine e_CW_joinAll_2 ?_
    rw [h9]
    exact bif_t (by omega) (h ι _ _ _ (fun q a b => h32 q a (by omega)) (Fr.refl _ _))
  | m + 1, k, ι, v2, v3, v4, v5, v6, hk, h9, hw, hr, h32, h => by
    have c := ho k (by omega) (by omega)
    refine e_CW_joinAll_2 ?_
    rw [h9, hL.1, hL.2.2.2.1, hL.2.2.2.2.2.2.1, hr k (by omega) (by omega), hw _ c.1 c.2]
    have F1 : Fr (fJn n0) ι (up ι 32 n0 (k : Int) (w (o k))) := (Fr.refl _ _).u (by omega)
    refine bif_f (by omega) ⟨by omega, c, by omega, by omega, ?_⟩
    rw [show (k : Int) + 1 = ((k + 1 : Nat) : Int) by omega]
    refine s_join2 hL ha hn ho m (k + 1) _ _ _ _ _ _ (by omega) (by rw [F1 5 n0 9 (by omega)]; exact h9) (fun s x y => by rw [F1 26 n0 s (by omega)]; exact hw s x y) (fun q x y => by rw [F1 29 n0 q (by omega)]; exact hr q x y) (fun q x y => ?_) (fun ι' v4 v5 v6 b F2 => h ι' v4 v5 v6 b (F1.trans F2))
    by_cases z : q = (k : Int)
    · rw [z, up_s]
    · rw [up_j z]; exact h32 q x (by omega)
theorem OR.VR {w o : Int → Int} (h : OR w a n o) (hn : 2 ≤ n) : VR (fun k => w (o k)) n := ⟨hn, fun k x y => by have := h.1.1 k x y; show 1 ≤ w (o k); omega, fun k x y => by have := h.2 k x y; unfold wlt at this; show w (o k) ≤ w (o (k + 1)); omega⟩
theorem s_join {ι : bm_S} {K : bm_S → Prop} {H : Nat × Int → bm_S → Prop} {w o : Int → Int} (hL : CWL n0 a) (ha : a ≤ 704) (hn : 2 ≤ n ∧ n ≤ a) (hO : OR w a n o) (hS : sm (fun k => w (o k)) 0 n ≤ 1000000) (h9 : ι 5 n0 9 = n) (hw : WgC ι n0 a w) (hr : ∀ k, 0 ≤ k → k < n → ι 29 n0 k = o k) (h : ∀ ι' : bm_S, (∀ k, 0 ≤ k → k < 2 * n - 2 → ι' 33 n0 k = hP (fun k => w (o k)) n k) → Fr (fJn n0) ι ι' → K ι') : bC sc 43 [br 5 n0] ι (bk0 K H) := by
  refine e_CW_joinAll_0 (s_join2 (w := w) (o := o) hL ha hn.2 (fun k x y => ⟨(hO.1.1 k x y).1, (hO.1.1 k x y).2.1⟩) n.toNat 0 ι _ _ _ _ _ (by omega) h9 hw hr (fun q x y => by omega) (fun ι1 v4 v5 v6 b F1 => ?_))
  have hV := hO.VR hn.1
  have := s_join45 (K := K) (H := H) (sc := sc) hL ha hn.2 hV hS (n - 1).toNat 0 0 n ι1 v4 v5 v6 (by omega) rfl (by show n = n + ((2 * 0 : Nat) : Int) - 0; omega) (by rw [F1 5 n0 9 (by omega)]; exact h9) (fun k x y => b k x (by omega)) (fun k hk => by
    unfold tkn at hk
    have e0 : (ht (fun k => w (o k)) n (2 * 0)).1 = 0 := rfl
    rw [e0] at hk; omega) (fun ι' b F2 => h ι' b (F1.trans F2))
  rw [show n + ((0 : Nat) : Int) = n by omega] at this
  exact this
/-! how deep -/
theorem s_depth25 {Q : bm_O → bm_S → Prop} (hL : CWL n0 a) (ha : a ≤ 704) (hn : n ≤ a) (h : VR v n) : ∀ (m : Nat) (mx : Int) (ι : bm_S), (m : Int) ≤ 2 * n - 2 → (∀ k, 0 ≤ k → k < 2 * n - 2 → ι 33 n0 k = hP v n k) → (∀ k, (m : Int) ≤ k → k ≤ 2 * n - 2 → ι 34 n0 k = hD v n k ∧ hD v n k ≤ mx) → 0 ≤ mx → (∃ k, 0 ≤ k ∧ k ≤ 2 * n - 2 ∧ hD v n k = mx) → (∀ k, 0 ≤ k → hD v n k ≤ 2 * n) →
    (∀ (ι' : bm_S) (mx : Int), (∀ k, 0 ≤ k → k ≤ 2 * n - 2 → ι' 34 n0 k = hD v n k ∧ hD v n k ≤ mx) → (∃ k, 0 ≤ k ∧ k ≤ 2 * n - 2 ∧ hD v n k = mx) → Fr (fun t i j => t = 34 ∧ i = n0) ι ι' → bW sc 44 67 [br 5 n0, bi mx, bi 0] [] ι' Q) → bW sc 44 25 [br 5 n0, bi mx, bi ((m : Int) - 1)] [] ι Q
  | 0, mx, ι, hm, h33, h34, hmx, hex, hbd, hK => e_CW_depthOfAll_25 (bif_t (by omega) (hK ι mx (fun k x y => h34 k (by omega) y) hex (Fr.refl _ _)))
  | m + 1, mx, ι, hm, h33, h34, hmx, hex, hbd, hK => by
    have hg := hP_gt h (k := m) (by omega) (by omega)
    have hs := hD_s h (k := m) (by omega) (by omega)
    have hb := hbd m (by omega)
    have h1 := hD_1 h (k := m) (by omega) (by omega)
    have q := h34 (hP v n m) (by omega) (by omega)
    refine e_CW_depthOfAll_25 ?_
    rw [show ((m + 1 : Nat) : Int) - 1 = m by omega, hL.2.2.2.2.2.2.2.1, hL.2.2.2.2.2.2.2.2, h33 m (by omega) (by omega), up_s, q.1, ← hs]
    refine bif_f (by omega) ⟨by omega, by omega, by omega, by omega, by omega, by omega, ?_⟩
    have F1 : Fr (fun t i j => t = 34 ∧ i = n0) ι (up ι 34 n0 (m : Int) (hD v n m)) := (Fr.refl _ _).u ⟨rfl, rfl⟩
    rw [show (m : Int) + (-1) = (m : Int) - 1 by omega]
    refine s_depth25 hL ha hn h m _ _ (by omega) (fun k x y => by rw [F1 33 n0 k (by omega)]; exact h33 k x y) (fun k x y => ?_) (by omega) ?_ hbd (fun ι' mx b c F2 => hK ι' mx b c (F1.trans F2))
    · by_cases z : k = (m : Int)
      · rw [z, up_s]; exact ⟨rfl, by omega⟩
      · rw [up_j z]; have := h34 k (by omega) y; exact ⟨this.1, by omega⟩
    · by_cases z : hD v n m ≤ mx
      · rw [show max mx (hD v n m) = mx by omega]; exact hex
      · rw [show max mx (hD v n m) = hD v n m by omega]; exact ⟨m, by omega, by omega, rfl⟩
theorem hD_leaf (h : VR v n) : ∀ (m : Nat) (k : Int), 0 ≤ k → k ≤ 2 * n - 2 → k ≤ m → ∃ c, 0 ≤ c ∧ c < n ∧ hD v n k ≤ hD v n c
  | m, k, h0, h1, hm => by
    by_cases z : k < n
    · exact ⟨k, h0, z, Int.le_refl _⟩
    · match m with
      | 0 => have := h.1; omega
      | m + 1 =>
        have hn := h.1
        have hp := tn_P h (u := (2 * (k - n)).toNat) (by omega)
        have hor := tn_or (u := (2 * (k - n)).toNat) (by omega) (h.HI (by omega))
        have e := hD_s h hp.1 hp.2.1
        rw [hp.2.2, show n + ((2 * (k - n)).toNat : Int) / 2 = k by omega] at e
        have hlt : tn v n (2 * (k - n)).toNat < k := by rcases hor with ⟨e, a, b⟩ | ⟨e, a, b, d⟩ <;> omega
        obtain ⟨c, c0, c1, c2⟩ := hD_leaf h m (tn v n (2 * (k - n)).toNat) hp.1 (by omega) (by omega)
        exact ⟨c, c0, c1, by omega⟩
theorem hdp_b (P : Int → Int) (r : Int) : ∀ (m : Nat) (k : Int), hdp P r m k ≤ m
  | 0, _ => Int.le_refl 0
  | m + 1, k => by
    have := hdp_b P r m (P k)
    show (if r ≤ k then 0 else hdp P r m (P k) + 1) ≤ ((m + 1 : Nat) : Int)
    split <;> omega
theorem s_depth67 {K : Int → bm_S → Prop} {H : Nat × Int → bm_S → Prop} {o D : Int → Int} {mx : Int} (hL : CWL n0 a) (ha : a ≤ 704) (hn : n ≤ a) (ho : ∀ k, 0 ≤ k → k < n → 0 ≤ o k ∧ o k < a) (hinj : ∀ p q, 0 ≤ p → p < n → 0 ≤ q → q < n → o p = o q → p = q) : ∀ (m k : Nat) (ι : bm_S), (k : Int) + m = n → ι 5 n0 9 = n → (∀ q, 0 ≤ q → q < n → ι 29 n0 q = o q ∧ ι 34 n0 q = D q) → (∀ q, 0 ≤ q → q < (k : Int) → ι 27 n0 (o q) = D q) →
    (∀ ι' : bm_S, (∀ q, 0 ≤ q → q < n → ι' 27 n0 (o q) = D q) → Fr (fun t i j => t = 27 ∧ i = n0 ∧ ∃ q, 0 ≤ q ∧ q < n ∧ j = o q) ι ι' → K mx ι') → bW sc 44 67 [br 5 n0, bi mx, bi (k : Int)] [] ι (bk1 K H)
  | 0, k, ι, hk, h9, hr, h27, h => e_CW_depthOfAll_67 (bif_t (by rw [h9]; omega) (h ι (fun q x y => h27 q x (by omega)) (Fr.refl _ _)))
  | m + 1, k, ι, hk, h9, hr, h27, h => by
    have c := ho k (by omega) (by omega)
    have r := hr k (by omega) (by omega)
    refine e_CW_depthOfAll_67 ?_
    rw [h9, hL.2.1, hL.2.2.2.1, hL.2.2.2.2.2.2.2.2, r.1, r.2]
    have F1 : Fr (fun t i j => t = 27 ∧ i = n0 ∧ ∃ q, 0 ≤ q ∧ q < n ∧ j = o q) ι (up ι 27 n0 (o k) (D k)) := (Fr.refl _ _).u ⟨rfl, rfl, k, by omega, by omega, rfl⟩
    refine bif_f (by omega) ⟨by omega, by omega, c, by omega, ?_⟩
    rw [show (k : Int) + 1 = ((k + 1 : Nat) : Int) by omega]
    refine s_depth67 hL ha hn ho hinj m (k + 1) _ (by omega) (by rw [F1 5 n0 9 (fun y => by omega)]; exact h9) (fun q x y => by rw [F1 29 n0 q (fun y => by omega), F1 34 n0 q (fun y => by omega)]; exact hr q x y) (fun q x y => ?_) (fun ι' b F2 => h ι' b (F1.trans F2))
    by_cases z : q = (k : Int)
    · rw [z, up_s]
    · rw [up_j (fun e => z (hinj q k x (by omega) (by omega) (by omega) e))]; exact h27 q x (by omega)
theorem s_depth {ι : bm_S} {K : Int → bm_S → Prop} {H : Nat × Int → bm_S → Prop} {w o : Int → Int} (hL : CWL n0 a) (ha : a ≤ 704) (hn : 2 ≤ n ∧ n ≤ a) (hO : OR w a n o) (h9 : ι 5 n0 9 = n) (hr : ∀ k, 0 ≤ k → k < n → ι 29 n0 k = o k) (h33 : ∀ k, 0 ≤ k → k < 2 * n - 2 → ι 33 n0 k = hP (fun k => w (o k)) n k)
    (h : ∀ (ι' : bm_S) (mx : Int), (∀ k, 0 ≤ k → k < n → hD (fun k => w (o k)) n k ≤ mx) → (∃ k, 0 ≤ k ∧ k < n ∧ mx ≤ hD (fun k => w (o k)) n k) → (∀ q, 0 ≤ q → q < n → ι' 27 n0 (o q) = hD (fun k => w (o k)) n q) → Fr (fun t i j => i = n0 ∧ (t = 34 ∨ t = 27 ∧ ∃ q, 0 ≤ q ∧ q < n ∧ j = o q)) ι ι' → K mx ι') : bC sc 44 [br 5 n0] ι (bk1 K H) := by
  have hV := hO.VR hn.1
  refine e_CW_depthOfAll_0 ?_
  rw [h9, hL.2.2.2.2.2.2.2.2]
  refine ⟨by omega, by omega, by omega, by omega, by omega, ?_⟩
  have F1 : Fr (fun t i j => t = 34 ∧ i = n0) ι (up ι 34 n0 (2 * n - 2) 0) := (Fr.refl _ _).u ⟨rfl, rfl⟩
  have := s_depth25 (Q := bk1 K H) (sc := sc) hL ha hn.2 hV (2 * n - 2).toNat 0 (up ι 34 n0 (2 * n - 2) 0) (by omega) (fun k x y => by rw [F1 33 n0 k (by omega)]; exact h33 k x y) (fun k x y => by rw [show k = 2 * n - 2 by omega, up_s, hD_0 hV (by omega)]; omega) (by omega) ⟨2 * n - 2, by omega, by omega, hD_0 hV (by omega)⟩ (fun k _ => by have := hdp_b (hP (fun k => w (o k)) n) (2 * n - 2) (2 * n).toNat k; unfold hD; omega) (fun ι1 mx b1 b2 F2 => ?_)
  · rw [show ((2 * n - 2).toNat : Int) - 1 = 2 * n - 3 by omega] at this; exact this
  · refine s_depth67 (D := hD (fun k => w (o k)) n) hL ha hn.2 (fun k x y => ⟨(hO.1.1 k x y).1, (hO.1.1 k x y).2.1⟩) hO.1.2.1 n.toNat 0 ι1 (by omega) (by rw [F2 5 n0 9 (by omega), F1 5 n0 9 (by omega)]; exact h9) (fun q x y => ⟨by rw [F2 29 n0 q (by omega), F1 29 n0 q (by omega)]; exact hr q x y, (b1 q x (by omega)).1⟩) (fun q x y => by omega) (fun ι' b F3 => h ι' mx (fun k x y => (b1 k x (by omega)).2) ?_ b (((F1.trans F2).wide (fun t i j q => ⟨q.2, Or.inl q.1⟩)).trans (F3.wide (fun t i j q => ⟨q.2.1, Or.inr ⟨q.1, q.2.2⟩⟩))))
    obtain ⟨k, k0, k1, k2⟩ := b2
    obtain ⟨c, c0, c1, c2⟩ := hD_leaf hV k.toNat k k0 k1 (by omega)
    exact ⟨c, c0, c1, by omega⟩
end Joining
