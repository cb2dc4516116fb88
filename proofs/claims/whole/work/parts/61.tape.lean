/-! the two tapes, what was made, the words: feed, end, bits, spoil, wipe, word, clear, digest, changed, pass, out -/
def Fr (P : Nat → Int → Int → Prop) (ι ι' : bm_S) : Prop := ∀ t i j, ¬ P t i j → ι' t i j = ι t i j
theorem Fr.refl (P : Nat → Int → Int → Prop) (ι : bm_S) : Fr P ι ι := fun _ _ _ _ => rfl
theorem Fr.trans {P : Nat → Int → Int → Prop} {ι ι1 ι2 : bm_S} (h1 : Fr P ι ι1) (h2 : Fr P ι1 ι2) : Fr P ι ι2 := fun t i j h => (h2 t i j h).trans (h1 t i j h)
theorem Fr.wide {P P' : Nat → Int → Int → Prop} {ι ι1 : bm_S} (h : Fr P ι ι1) (hp : ∀ t i j, P t i j → P' t i j) : Fr P' ι ι1 := fun t i j hn => h t i j (fun q => hn (hp t i j q))
theorem Fr.u {P : Nat → Int → Int → Prop} {ι ι1 : bm_S} {t : Nat} {i j x : Int} (h1 : Fr P ι ι1) (h : P t i j) : Fr P ι (up ι1 t i j x) := fun t' i' j' h' => by
  rw [← h1 t' i' j' h']
  unfold up
  rw [if_neg]
  intro ⟨a, b, c⟩
  subst a b c
  exact h' h
theorem FrB.fr {n : Int} {ι ι' : bm_S} (h : FrB n ι ι') : Fr (fun t i _ => (t = 2 ∨ t = 20) ∧ i = n) ι ι' := fun t i j hn => h t i j hn
/-- tape: size, bits, row; the other's size, bitsAt, row -/
def It (s b : Int) (f : Int → Int) (ts ba : Int) (g : Int → Int) : Prop := (0 ≤ s ∧ s ≤ 2400) ∧ ts = s ∧ (∀ k, 0 ≤ k → k < s → f k = g k ∧ -128 ≤ g k ∧ g k < 128) ∧ (ba < 0 ∧ b = 8 * s ∨ 0 ≤ ba ∧ b = ba ∧ 8 * s - 8 < b ∧ b ≤ 8 * s)
def Im (s : Int) (f : Int → Int) (os : Int) (g : Int → Int) : Prop := (0 ≤ s ∧ s ≤ 4096) ∧ os = s ∧ ∀ k, 0 ≤ k → k < s → f k = g k ∧ -128 ≤ g k ∧ g k < 128
def Iw (f g m w : Int → Int) : Prop := (∀ k, 0 ≤ k → k < 2240 → f k = g k ∧ -128 ≤ g k ∧ g k < 128) ∧ ∀ n, 4 ≤ n → n ≤ 10 → m n = w n ∧ 0 ≤ w n ∧ w n ≤ 32
def Jt (ι : bm_S) : Prop := It (ι 2 0 1) (ι 2 0 2) (ι 20 0) (ι 13 0 3) (ι 13 0 4) (ι 66 0)
def Jm (ι : bm_S) : Prop := Im (ι 2 1 1) (ι 20 1) (ι 13 0 6) (ι 67 0)
def Jw (ι : bm_S) : Prop := Iw (ι 64 0) (ι 68 0) (ι 65 0) (ι 69 0)
/-- what the small methods may change -/
def sf (t : Nat) (i j : Int) : Prop := (t = 2 ∧ i = 0) ∨ (t = 20 ∧ i = 0) ∨ t = 64 ∨ t = 65 ∨ t = 66 ∨ t = 68 ∨ t = 69 ∨ t = 70 ∨ (t = 13 ∧ (j = 0 ∨ j = 3 ∨ j = 4 ∨ j = 10))
def Jn (Rest : bm_S → Prop) (ι : bm_S) : Prop := Jt ι ∧ Jm ι ∧ Jw ι ∧ Rest ι
def Pair (sc : bm_Sc) (x m : Nat) (as : List bm_V) (ι : bm_S) (J : bm_S → Prop) : Prop := bC sc x (br 11 0 :: as) ι (bk1 (fun r1 ι1 => bC sc m (br 13 0 :: as) ι1 (bk1 (fun r2 ι2 => r1 = r2 ∧ J ι2) (fun _ _ => False))) (fun _ _ => False))
theorem L20_0 : bm_L 20 0 = 2400 := rfl
theorem L20_1 : bm_L 20 1 = 4096 := rfl
theorem Jm.to {ι ι' : bm_S} {P : Nat → Int → Int → Prop} (hf : Fr P ι ι') (hp : ∀ j, ¬ P 20 1 j ∧ ¬ P 67 0 j ∧ ¬ P 2 1 1 ∧ ¬ P 13 0 6) (h : Jm ι) : Jm ι' := by
  unfold Jm at h ⊢
  have h0 := hp 0
  rw [hf 2 1 1 h0.2.2.1, hf 13 0 6 h0.2.2.2, show ι' 20 1 = ι 20 1 from funext fun j => hf _ _ _ (hp j).1, show ι' 67 0 = ι 67 0 from funext fun j => hf _ _ _ (hp j).2.1]
  exact h
theorem Jw.to {ι ι' : bm_S} {P : Nat → Int → Int → Prop} (hf : Fr P ι ι') (hp : ∀ j, ¬ P 64 0 j ∧ ¬ P 65 0 j ∧ ¬ P 68 0 j ∧ ¬ P 69 0 j) (h : Jw ι) : Jw ι' := by
  unfold Jw at h ⊢
  rw [show ι' 64 0 = ι 64 0 from funext fun j => hf _ _ _ (hp j).1, show ι' 65 0 = ι 65 0 from funext fun j => hf _ _ _ (hp j).2.1, show ι' 68 0 = ι 68 0 from funext fun j => hf _ _ _ (hp j).2.2.1, show ι' 69 0 = ι 69 0 from funext fun j => hf _ _ _ (hp j).2.2.2]
  exact h
section TapeMethods
variable {sc : bm_Sc} {ι : bm_S} {Rest : bm_S → Prop} {H : Nat × Int → bm_S → Prop}
def fv (a b c d e j : Int) : Int := bm_byte (bm_ushr (if j < 4 then a else if j < 8 then b else if j < 12 then c else if j < 16 then d else e) (24 - 8 * (j % 4)))
theorem m_feed24 {K : Int → bm_S → Prop} {a b c d e : Int} : ∀ (m : Nat) (k : Int) (v7 : bm_V) (ι : bm_S), k = 20 - m → 0 ≤ k → 0 ≤ ι 13 0 3 → ι 13 0 3 + 20 ≤ 2400 →
    (∀ ι', ι' 13 0 3 = ι 13 0 3 + 20 → ι' 13 0 4 = -1 → (∀ j, j < ι 13 0 3 + k → ι' 66 0 j = ι 66 0 j) → (∀ j, k ≤ j → j < 20 → ι' 66 0 (ι 13 0 3 + j) = fv a b c d e j) → Fr (fun t _ j => t = 66 ∨ (t = 13 ∧ (j = 3 ∨ j = 4))) ι ι' → K (ι 13 0 3 + 20) ι') →
    bW sc 154 24 [br 13 0, bi a, bi b, bi c, bi d, bi e, bi k, v7] [] ι (bk1 K H)
  | 0, k, v7, ι, hk, h0, h1, h2, h => by
    refine e_M_feed_24 (bif_t (by omega) ⟨by omega, ?_⟩)
    refine h _ (by simp (disch := omega) only [up_s, up_k, up_j, up_i]) (by simp (disch := omega) only [up_s, up_k, up_j, up_i]) (fun j _ => by simp (disch := omega) only [up_s, up_k, up_j, up_i]) (fun j _ _ => by omega) ?_
    exact ((Fr.refl _ _).u (by omega)).u (by omega)
  | m + 1, k, v7, ι, hk, h0, h1, h2, h => by
    have step : ∀ (x : Int) (w : bm_V), bm_byte (bm_byte (bm_ushr x (24 - 8 * (k % 4)))) = fv a b c d e k → bW sc 154 24 [br 13 0, bi a, bi b, bi c, bi d, bi e, bi (k + 1), w] [] (up ι 66 0 (ι 13 0 3 + k) (bm_byte (bm_byte (bm_ushr x (24 - 8 * (k % 4)))))) (bk1 K H) := by
      intro x w hx
      rw [hx]
      refine m_feed24 m (k + 1) w _ (by omega) (by omega) (by simp (disch := omega) only [up_s, up_k, up_j, up_i]; omega) (by simp (disch := omega) only [up_s, up_k, up_j, up_i]; omega) ?_
      rw [up_k (by decide)]
      intro ι' g1 g2 g3 g4 g5
      refine h ι' g1 g2 (fun j hj => ?_) (fun j hj1 hj2 => ?_) (((Fr.refl _ _).u (by omega)).trans g5)
      · rw [g3 j (by omega)]; simp (disch := omega) only [up_s, up_k, up_j, up_i]
      · by_cases hjk : j = k
        · rw [hjk, g3 _ (by omega), up_s]
        · exact g4 j (by omega) hj2
    refine e_M_feed_24 (bif_f (by omega) (bif_i (fun h1 => (bif_i (fun h2 => (bif_i (fun h3 => (bif_i (fun h4 => ⟨by omega, ⟨by omega, ⟨by omega, ⟨by omega, ⟨by omega, ⟨by omega, ?_⟩⟩⟩⟩⟩⟩) (fun h4 => ⟨by omega, ⟨by omega, ⟨by omega, ⟨by omega, ⟨by omega, ⟨by omega, ?_⟩⟩⟩⟩⟩⟩))) (fun h3 => ⟨by omega, ⟨by omega, ⟨by omega, ⟨by omega, ⟨by omega, ⟨by omega, ?_⟩⟩⟩⟩⟩⟩))) (fun h2 => ⟨by omega, ⟨by omega, ⟨by omega, ⟨by omega, ⟨by omega, ⟨by omega, ?_⟩⟩⟩⟩⟩⟩))) (fun h1 => ⟨by omega, ⟨by omega, ⟨by omega, ⟨by omega, ⟨by omega, ⟨by omega, ?_⟩⟩⟩⟩⟩⟩)))
    · exact step _ _ (by unfold fv; rw [by_by, if_neg (by omega), if_neg (by omega), if_neg (by omega), if_neg (by omega)])
    · exact step _ _ (by unfold fv; rw [by_by, if_neg (by omega), if_neg (by omega), if_neg (by omega), if_pos (by omega)])
    · exact step _ _ (by unfold fv; rw [by_by, if_neg (by omega), if_neg (by omega), if_pos (by omega)])
    · exact step _ _ (by unfold fv; rw [by_by, if_neg (by omega), if_pos (by omega)])
    · exact step _ _ (by unfold fv; rw [by_by, if_pos (by omega)])
theorem fv_n4 {a b c d e x s k j : Int} (hx : bm_rg x) (hj : 0 ≤ j ∧ j < 4) (hs : (if s < 4 then a else if s < 8 then b else if s < 12 then c else if s < 16 then d else e) = x) (h : s = 0 ∨ s = 4 ∨ s = 8 ∨ s = 12 ∨ s = 16) (hk : k = s + j) : fv a b c d e k = n4 x j := by
  unfold fv n4
  have h4 : (if k < 4 then a else if k < 8 then b else if k < 12 then c else if k < 16 then d else e) = x := by
    rw [← hs]
    rcases h with rfl | rfl | rfl | rfl | rfl
    · rw [if_pos (by omega), if_pos (by omega)]
    · rw [if_neg (by omega), if_pos (by omega), if_neg (by omega), if_pos (by omega)]
    · rw [if_neg (by omega), if_neg (by omega), if_pos (by omega), if_neg (by omega), if_neg (by omega), if_pos (by omega)]
    · rw [if_neg (by omega), if_neg (by omega), if_neg (by omega), if_pos (by omega), if_neg (by omega), if_neg (by omega), if_neg (by omega), if_pos (by omega)]
    · rw [if_neg (by omega), if_neg (by omega), if_neg (by omega), if_neg (by omega), if_neg (by omega), if_neg (by omega), if_neg (by omega), if_neg (by omega)]
  rw [h4]
  have : k % 4 = j := by omega
  rw [this]
  by_cases e0 : j = 0
  · rw [if_pos e0, e0]; rfl
  · rw [if_neg e0]
    by_cases e1 : j = 1
    · rw [if_pos e1, e1]; rfl
    · rw [if_neg e1]
      by_cases e2 : j = 2
      · rw [if_pos e2, e2]; rfl
      · rw [if_neg e2, show (24 : Int) - 8 * j = 0 by omega, us_0 hx]
theorem p_feed {a b c d e : Int} (hR : ∀ ι ι', Fr sf ι ι' → Rest ι → Rest ι') (ha : bm_rg a ∧ bm_rg b ∧ bm_rg c ∧ bm_rg d ∧ bm_rg e) (hJ : Jn Rest ι) : Pair sc 121 154 [bi a, bi b, bi c, bi d, bi e] ι (Jn Rest) := by
  obtain ⟨⟨t1, t2, t3, t4⟩, hm, hw, hr⟩ := hJ
  have hL := L20_0
  refine e_X_feed_0 ⟨by omega, (bif_i (fun h1 => ?_) (fun h1 => ?_))⟩
  · have hB : By ι 0 (ι 2 0 1) (ι 2 0 2) (ι 20 0) := ⟨rfl, rfl, fun k _ _ => rfl⟩
    refine s_addNumber (Or.inl rfl) hB (by omega) fun ι1 b1 f1 => ?_
    refine s_addNumber (Or.inl rfl) b1 (by omega) fun ι2 b2 f2 => ?_
    refine s_addNumber (Or.inl rfl) b2 (by omega) fun ι3 b3 f3 => ?_
    refine s_addNumber (Or.inl rfl) b3 (by omega) fun ι4 b4 f4 => ?_
    refine s_addNumber (Or.inl rfl) b4 (by omega) fun ι5 b5 f5 => ?_
    have F := ((((f1.trans f2).trans f3).trans f4).trans f5).fr
    have e3 : ι5 13 0 3 = ι 13 0 3 := F 13 0 3 (by omega)
    refine e_M_feed_0 ⟨by (rw [e3]; omega), (bif_t (by (rw [e3]; omega)) ?_)⟩
    refine m_feed24 20 0 _ _ (by omega) (by omega) (by simp (disch := omega) only [up_s, up_k, up_j, up_i]; omega) (by simp (disch := omega) only [up_s, up_k, up_j, up_i]; omega) ?_
    rw [up_j (by decide)]
    intro ι' g1 g2 g3 g4 g5
    have G : Fr sf ι ι' := (F.wide fun t i j q => by unfold sf; omega).trans ((((Fr.refl sf ι5).u (show sf 13 0 0 by unfold sf; omega))).trans (g5.wide fun t i j q => by unfold sf; omega))
    have c1 : ∀ i j, ι' 20 i j = ι5 20 i j := fun i j => by rw [g5 20 i j (by omega), up_k (by decide)]
    have c2 : ∀ i j, ι' 2 i j = ι5 2 i j := fun i j => by rw [g5 2 i j (by omega), up_k (by decide)]
    refine ⟨by rw [b5.1, e3, t2]; omega, ⟨by rw [c2, b5.1]; omega, by rw [c2, b5.1, g1, e3, t2]; omega, fun k k0 k1 => ?_, Or.inl ⟨by rw [g2]; omega, by rw [c2, c2, b5.1, b5.2.1]⟩⟩, ?_, ?_, hR _ _ G hr⟩
    · rw [c2, b5.1] at k1
      rw [c1, b5.2.2 k k0 (by omega)]
      have old : k < ι 2 0 1 → ι' 66 0 k = ι 66 0 k := fun hk => by
        rw [g3 k (by rw [e3, t2]; omega), up_k (by decide), F 66 0 k (by omega)]
      have new : ι 2 0 1 ≤ k → ι' 66 0 k = fv a b c d e (k - ι 2 0 1) := fun hk => by
        have := g4 (k - ι 2 0 1) (by omega) (by omega)
        rw [e3, t2, show ι 2 0 1 + (k - ι 2 0 1) = k by omega] at this
        exact this
      have rng : ∀ j, -128 ≤ fv a b c d e j ∧ fv a b c d e j < 128 := fun j => by_rg _
      unfold fs4
      by_cases q5 : k < ι 2 0 1 + 4 + 4 + 4 + 4
      · rw [if_pos q5]
        by_cases q4 : k < ι 2 0 1 + 4 + 4 + 4
        · rw [if_pos q4]
          by_cases q3 : k < ι 2 0 1 + 4 + 4
          · rw [if_pos q3]
            by_cases q2 : k < ι 2 0 1 + 4
            · rw [if_pos q2]
              by_cases q1 : k < ι 2 0 1
              · rw [if_pos q1, old q1]; exact t3 k k0 q1
              · rw [if_neg q1, new (by omega)]
                exact ⟨(fv_n4 (s := 0) ha.1 (by omega) rfl (by omega) (by omega)).symm, rng _⟩
            · rw [if_neg q2, new (by omega)]
              exact ⟨(fv_n4 (s := 4) ha.2.1 (by omega) rfl (by omega) (by omega)).symm, rng _⟩
          · rw [if_neg q3, new (by omega)]
            exact ⟨(fv_n4 (s := 8) ha.2.2.1 (by omega) rfl (by omega) (by omega)).symm, rng _⟩
        · rw [if_neg q4, new (by omega)]
          exact ⟨(fv_n4 (s := 12) ha.2.2.2.1 (by omega) rfl (by omega) (by omega)).symm, rng _⟩
      · rw [if_neg q5, new (by omega)]
        exact ⟨(fv_n4 (s := 16) ha.2.2.2.2 (by omega) rfl (by omega) (by omega)).symm, rng _⟩
    · exact hm.to G (fun j => by unfold sf; omega)
    · have G2 : Fr (fun t i j => (t = 2 ∧ i = 0) ∨ (t = 20 ∧ i = 0) ∨ t = 66 ∨ t = 13) ι ι' := (F.wide fun t i j q => by omega).trans ((((Fr.refl _ ι5).u (by omega))).trans (g5.wide fun t i j q => by omega))
      exact hw.to G2 (fun j => by omega)
  · refine e_M_feed_0 ⟨by omega, (bif_f (by omega) ?_)⟩
    exact ⟨rfl, ⟨t1, t2, t3, t4⟩, hm, hw, hR _ _ ((Fr.refl sf ι).u (by unfold sf; omega)) hr⟩
end TapeMethods
