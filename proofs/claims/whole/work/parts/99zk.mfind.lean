/-! pack: the other joins and finds lengths -/
section MFind
variable {sc : bm_Sc} {a n : Int} {w o : Int → Int}
theorem tkn_s {v : Int → Int} (hV : VR v n) {u : Nat} (hu : (u : Int) + 2 < 2 * n) (d : Int) : tkn v n (u + 1) d ↔ (tkn v n u d ∨ d = tn v n u) := by
  have hI := hV.HI (u := u) (by omega)
  have hor := tn_or (by omega) hI
  have e1 := hI.1
  have e2 := ht_i (v := v) (n := n) u
  unfold tkn
  rcases hor with ⟨e, a, b⟩ | ⟨e, a, b, dd⟩
  · rw [e, if_pos a] at e2; omega
  · rw [e, if_neg (by omega)] at e2; omega
theorem tkn_not {v : Int → Int} (hV : VR v n) {t : Nat} (ht1 : (t : Int) + 1 < n) : ¬ tkn v n (2 * t + 2) (n + t) := by
  have hI1 := hV.HI (u := 2 * t + 1) (by omega)
  have hor := tn_or (by omega) hI1
  have e1 := ht_i (v := v) (n := n) (2 * t + 1)
  have a1 := hI1.1
  have e2 : (ht v n (2 * t + 2)).1 = (ht v n (2 * t + 1 + 1)).1 := rfl
  unfold tkn
  rcases hor with ⟨e, a, b⟩ | ⟨e, a, b, c⟩
  · rw [e, if_pos a] at e1; omega
  · rw [e, if_neg (by omega)] at e1; omega
def AM (ι : bm_S) (w o : Int → Int) (a n : Int) (u t : Nat) : Prop := ∀ c, 0 ≤ c → c < n + t → (tkn (fun k => w (o k)) n u c → ι 91 0 (nu o a n c) = nu o a n (hP (fun k => w (o k)) n c)) ∧ (¬ tkn (fun k => w (o k)) n u c → ι 91 0 (nu o a n c) = -1)
abbrev gJn (t : Nat) (_ _ : Int) : Prop := t = 90 ∨ t = 91 ∨ t = 92
theorem m_join68 {Q : bm_O → bm_S → Prop} {st : Int} (ha : a ≤ 704) (hn : 2 ≤ n ∧ n ≤ a) (hO : OR w a n o) (hS : sm (fun k => w (o k)) 0 n ≤ 1000000) : ∀ (m t : Nat) (ι : bm_S) (v6 v7 v8 : bm_V), (t : Int) + 1 + m = n → OM ι w o a n (2 * t) t → WM ι w o a n t → AM ι w o a n (2 * t) t →
    (∀ (ι' : bm_S) (v4 v7 v8 : bm_V), (∀ c, 0 ≤ c → c < 2 * n - 2 → ι' 91 0 (nu o a n c) = nu o a n (hP (fun k => w (o k)) n c)) → ι' 91 0 (nu o a n (2 * n - 2)) = -1 → Fr gJn ι ι' → bW sc 239 177 [br 13 0, bi st, bi a, bi n, v4, bi 0, bi 0, v7, v8] [] ι' Q) → bW sc 239 68 [br 13 0, bi st, bi a, bi n, bi (a + t), bi ((t : Int) + 1), v6, v7, v8] [] ι Q
  | 0, t, ι, v6, v7, v8, ht1, h1, h2, h3, hK => by
    have hV := hO.VR hn.1
    have e2 : 2 * t = (2 * n - 2).toNat := by omega
    rw [e2] at h3
    refine e_M_joinAll_68 (bif_t (by omega) (hK ι _ _ _ (fun c c0 c1 => (h3 c c0 (by omega)).1 ?_) ((h3 (2 * n - 2) (by omega) (by omega)).2 ?_) (Fr.refl _ _)))
    · unfold tkn; rw [ht_end hV]; omega
    · unfold tkn; rw [ht_end hV]; omega
  | m + 1, t, ι, v6, v7, v8, ht1, h1, h2, h3, hK => by
    have hV := hO.VR hn.1
    have p1 := tn_P hV (u := 2 * t) (by omega)
    have p2 := tn_P hV (u := 2 * t + 1) (by omega)
    have k1 := tkn_s hV (u := 2 * t) (by omega)
    have k2 := tkn_s hV (u := 2 * t + 1) (by omega)
    have k3 := tkn_not hV (t := t) (by omega)
    have hw1 := hW_tn hV (z := 2 * t) (by omega)
    have hw2 := hW_tn hV (z := 2 * t + 1) (by omega)
    have hw3 := hW_in hV (t := t) (by omega)
    have hb := ht_b hV (u := 2 * t + 1) (by omega)
    have hb2 := hW_of hV (k := n + (((2 * t + 1 : Nat)) : Int) / 2) (u := 2 * t + 1 + 1) (by omega) (by omega)
    rw [← hb2, show n + (((2 * t + 1 : Nat)) : Int) / 2 = n + t by omega] at hb
    have o1 := tn_or (by omega) (hV.HI (u := 2 * t) (by omega))
    have o2 := tn_or (by omega) (hV.HI (u := 2 * t + 1) (by omega))
    have i1 := (hV.HI (u := 2 * t) (by omega)).1
    have i2 := (hV.HI (u := 2 * t + 1) (by omega)).1
    obtain ⟨c1, hc1⟩ : ∃ c1, c1 = tn (fun k => w (o k)) n (2 * t) := ⟨_, rfl⟩
    obtain ⟨c2, hc2⟩ : ∃ c2, c2 = tn (fun k => w (o k)) n (2 * t + 1) := ⟨_, rfl⟩
    have l1 : c1 < n + t := by rw [← hc1] at o1; rcases o1 with ⟨e, a, b⟩ | ⟨e, a, b, d⟩ <;> omega
    have l2 : c2 < n + t := by rw [← hc2] at o2; rcases o2 with ⟨e, a, b⟩ | ⟨e, a, b, d⟩ <;> omega
    have t1 := h1.take hn hO (by omega) (by omega)
    have t2 := t1.take hn hO (by omega) (by omega)
    rw [← hc1] at p1 k1 hw1 t1 t2
    rw [← hc2] at p2 k2 hw2 t2
    have r1 := nu_rg hn hO p1.1
    have r2 := nu_rg hn hO p2.1
    have r3 : nu o a n (n + t) = a + t := by rw [nu_r (by omega)]; omega
    have d1 : nu o a n c1 ≠ a + t := fun e => by rw [← r3] at e; have := nu_inj hO p1.1 (by omega) e; omega
    have d2 : nu o a n c2 ≠ a + t := fun e => by rw [← r3] at e; have := nu_inj hO p2.1 (by omega) e; omega
    refine e_M_joinAll_68 (bif_f (by omega) (m_pick ha hn hO (u := 2 * t) (by omega) (by omega) h1 h2 ?_))
    rw [← hc1]
    refine ⟨by omega, m_pick ha hn hO (u := 2 * t + 1) (by omega) (by omega) t1 (fun c x y => by rw [up_k (by decide)]; exact h2 c x y) ?_⟩
    rw [← hc2, up_k (by decide), up_k (by decide), h2 c1 p1.1 l1, h2 c2 p2.1 l2, hw1, hw2, ← hw3]
    refine ⟨by omega, by omega, by omega, by omega, by omega, by omega, by omega, by omega, by omega, by omega, by omega, ?_⟩
    obtain ⟨σ, hσ⟩ : ∃ σ, σ = up (up (up (up (up (up (up ι 92 0 (nu o a n c1) 0) 92 0 (nu o a n c2) 0) 90 0 (a + (t : Int)) (hW (fun k => w (o k)) n (n + (t : Int)))) 92 0 (a + (t : Int)) 1) 91 0 (a + (t : Int)) (-1)) 91 0 (nu o a n c1) (a + (t : Int))) 91 0 (nu o a n c2) (a + (t : Int)) := ⟨_, rfl⟩
    rw [← hσ]
    have Fσ : Fr gJn ι σ := by rw [hσ]; exact (((((((Fr.refl _ _).u (by omega)).u (by omega)).u (by omega)).u (by omega)).u (by omega)).u (by omega)).u (by omega)
    have q92 : ∀ k, k ≠ a + t → σ 92 0 k = (up (up ι 92 0 (nu o a n c1) 0) 92 0 (nu o a n c2) 0) 92 0 k := fun k hk => by rw [hσ, up_k (by decide), up_k (by decide), up_k (by decide), up_j hk, up_k (by decide)]
    have q92s : σ 92 0 (a + t) = 1 := by rw [hσ, up_k (by decide), up_k (by decide), up_k (by decide), up_s]
    have q90 : ∀ k, k ≠ a + t → σ 90 0 k = ι 90 0 k := fun k hk => by rw [hσ, up_k (by decide), up_k (by decide), up_k (by decide), up_k (by decide), up_j hk, up_k (by decide), up_k (by decide)]
    have q90s : σ 90 0 (a + t) = hW (fun k => w (o k)) n (n + (t : Int)) := by rw [hσ, up_k (by decide), up_k (by decide), up_k (by decide), up_k (by decide), up_s]
    have q91 : ∀ k, k ≠ a + t → k ≠ nu o a n c1 → k ≠ nu o a n c2 → σ 91 0 k = ι 91 0 k := fun k x y z => by rw [hσ, up_j z, up_j y, up_j x, up_k (by decide), up_k (by decide), up_k (by decide), up_k (by decide)]
    have q91s : σ 91 0 (a + t) = -1 := by rw [hσ, up_j d2.symm, up_j d1.symm, up_s]
    have q911 : σ 91 0 (nu o a n c1) = a + t := by
      rw [hσ]
      by_cases z : nu o a n c1 = nu o a n c2
      · rw [z, up_s]
      · rw [up_j z, up_s]
    have q912 : σ 91 0 (nu o a n c2) = a + t := by rw [hσ, up_s]
    have ne : ∀ c, 0 ≤ c → c < n + t → nu o a n c ≠ a + t := fun c x y e => by rw [← r3] at e; have := nu_inj hO x (by omega) e; omega
    have k4 : ∀ d, tkn (fun k => w (o k)) n (2 * (t + 1)) d ↔ (tkn (fun k => w (o k)) n (2 * t) d ∨ d = c1) ∨ d = c2 := fun d => by
      rw [show 2 * (t + 1) = 2 * t + 1 + 1 from rfl, k2, k1]
    rw [show a + (t : Int) + 1 = a + ((t + 1 : Nat) : Int) by omega, show (t : Int) + 1 + 1 = ((t + 1 : Nat) : Int) + 1 by omega]
    refine m_join68 ha hn hO hS m (t + 1) σ _ _ _ (by omega) ⟨fun c c0 c1' => ?_, fun k k0 k1' k2' => ?_⟩ (fun c c0 c1' => ?_) (fun c c0 c1' => ?_) (fun ι' v4 v7 v8 b1 b2 F2 => hK ι' v4 v7 v8 b1 b2 (Fσ.trans F2))
    · by_cases z : c = n + t
      · rw [z, r3, q92s]; exact ⟨fun y => absurd y k3, fun _ => rfl⟩
      · rw [q92 _ (ne c c0 (by omega))]; exact t2.1 c c0 (by omega)
    · rw [q92 k (by omega)] at k2'; exact t2.2 k k0 k1' k2'
    · by_cases z : c = n + t
      · rw [z, r3, q90s]
      · rw [q90 _ (ne c c0 (by omega))]; exact h2 c c0 (by omega)
    · by_cases z : c = n + t
      · rw [z, r3, q91s]; exact ⟨fun y => absurd y k3, fun _ => rfl⟩
      · rw [k4]
        by_cases z1 : c = c1
        · rw [z1, q911, p1.2.2, show n + (((2 * t : Nat)) : Int) / 2 = n + t by omega, r3]
          exact ⟨fun _ => rfl, fun y => absurd (Or.inl (Or.inr rfl)) y⟩
        · by_cases z2 : c = c2
          · rw [z2, q912, p2.2.2, show n + (((2 * t + 1 : Nat)) : Int) / 2 = n + t by omega, r3]
            exact ⟨fun _ => rfl, fun y => absurd (Or.inr rfl) y⟩
          · rw [q91 _ (ne c c0 (by omega)) (fun e => z1 (nu_inj hO c0 p1.1 e)) (fun e => z2 (nu_inj hO c0 p2.1 e))]
            have q := h3 c c0 (by omega)
            exact ⟨fun y => q.1 ((y.resolve_right z2).resolve_right z1), fun y => q.2 (fun x => y (Or.inl (Or.inl x)))⟩
theorem m_join6 {Q : bm_O → bm_S → Prop} {st : Int} {v4 v6 v7 v8 : bm_V} (ha : a ≤ 704) : ∀ (m s : Nat) (ι : bm_S), (s : Int) + m = a → (∀ k, 0 ≤ k → k < a → ι 93 0 k = w k) → (∀ k, 0 ≤ k → k < (s : Int) → ι 92 0 k = (if 0 < w k then 1 else 0) ∧ ι 90 0 k = w k ∧ ι 91 0 k = -1) →
    (∀ ι' : bm_S, (∀ k, 0 ≤ k → k < a → ι' 92 0 k = (if 0 < w k then 1 else 0) ∧ ι' 90 0 k = w k ∧ ι' 91 0 k = -1) → Fr gJn ι ι' → bW sc 239 68 [br 13 0, bi st, bi a, bi n, bi a, bi 1, v6, v7, v8] [] ι' Q) → bW sc 239 6 [br 13 0, bi st, bi a, bi n, v4, bi (s : Int), v6, v7, v8] [] ι Q
  | 0, s, ι, hs, h93, hd, h => e_M_joinAll_6 (bif_t (by omega) (h ι (fun k x y => hd k x (by omega)) (Fr.refl _ _)))
  | m + 1, s, ι, hs, h93, hd, h => by
    have step : ∀ x : Int, x = (if 0 < w s then 1 else 0) → bW sc 239 6 [br 13 0, bi st, bi a, bi n, v4, bi ((s : Int) + 1), v6, v7, v8] [] (up (up (up ι 92 0 (s : Int) x) 90 0 (s : Int) (w s)) 91 0 (s : Int) (-1)) Q := fun x hx => by
      have F1 : Fr gJn ι (up (up (up ι 92 0 (s : Int) x) 90 0 (s : Int) (w s)) 91 0 (s : Int) (-1)) := (((Fr.refl _ _).u (by omega)).u (by omega)).u (by omega)
      rw [show (s : Int) + 1 = ((s + 1 : Nat) : Int) by omega]
      refine m_join6 ha m (s + 1) _ (by omega) (fun k x y => by rw [F1 93 0 k (by omega)]; exact h93 k x y) (fun k k0 k1 => ?_) (fun ι' b F2 => h ι' b (F1.trans F2))
      by_cases z : k = (s : Int)
      · rw [z, up_k (by decide), up_k (by decide), up_s, up_k (by decide), up_s, up_s]; exact ⟨hx, rfl, rfl⟩
      · rw [up_k (by decide), up_k (by decide), up_j z, up_k (by decide), up_j z, up_k (by decide), up_j z, up_k (by decide), up_k (by decide)]; exact hd k k0 (by omega)
    refine e_M_joinAll_6 (bif_f (by omega) ?_)
    rw [h93 s (by omega) (by omega)]
    exact ⟨by omega, bif_i (fun z => ⟨by omega, by omega, by omega, by omega, by omega, step 0 (by rw [if_neg (by omega)])⟩) (fun z => ⟨by omega, by omega, by omega, by omega, by omega, step 1 (by rw [if_pos (by omega)])⟩)⟩
end MFind
