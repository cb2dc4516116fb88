/-! a code is made of its lengths -/
section Build
variable {sc : bm_Sc} {H : Nat × Int → bm_S → Prop}
theorem s_build23_26 {K : bm_S → Prop} {c : Int} {L : Int → Int} {a : Nat} (ha : (a : Int) ≤ 704) (v2 v5 v6 : bm_V) : ∀ (m : Nat) (k : Nat) (ι : bm_S), k + m = a → (∀ s : Nat, s < a → ι 23 0 s = L s ∧ 0 ≤ L s ∧ L s ≤ 15) → (∀ n : Nat, n ≤ 15 → ι 21 c n = cn L n k) →
    (∀ ι' : bm_S, (∀ n : Nat, n ≤ 15 → ι' 21 c n = mc L a n) → ι' 3 c 2 = 0 → Fr (fun t i j => i = c ∧ (t = 21 ∨ t = 3 ∧ j = 2)) ι ι' → bW sc 23 69 [br 3 c, br 23 0, v2, bi (a : Int), bi 1, v5, v6] [] ι' (bk0 K H)) → bW sc 23 26 [br 3 c, br 23 0, v2, bi (a : Int), bi (k : Int), v5, v6] [] ι (bk0 K H)
  | 0, k, ι, hk, hT, hc, h => by
    refine e_C_build_23_26 (bif_t (by omega) ⟨by omega, ?_⟩)
    refine h _ (fun n hn => ?_) (by simp (disch := omega) only [up_s, up_k, up_j, up_i]) (((Fr.refl _ _).u (by omega)).u (by omega))
    rw [up_k (by decide), up_at]
    unfold mc
    by_cases q : n = 0
    · rw [if_pos q, if_pos (by omega)]
    · rw [if_neg q, if_neg (by omega), hc n hn, show k = a by omega]
  | m + 1, k, ι, hk, hT, hc, h => by
    have hk1 := hT k (by omega)
    have hmod : ι 23 0 k % 16 = L k := by omega
    have hcn := cn_nn L (L k) k
    have hck := hc (L k).toNat (by omega)
    rw [show (((L k).toNat : Nat) : Int) = L k by omega] at hck
    refine e_C_build_23_26 (bif_f (by omega) ?_)
    rw [hmod]
    refine ⟨by omega, by omega, by omega, by omega, by omega, ?_⟩
    have := s_build23_26 (K := K) (c := c) (L := L) ha v2 v5 v6 m (k + 1) (up ι 21 c (L k) (ι 21 c (L k) + 1)) (by omega) (fun s hs => by rw [up_k (by decide)]; exact hT s hs) (fun n hn => ?_) (fun ι' g1 g2 g3 => h ι' g1 g2 (((Fr.refl _ _).u (by omega)).trans g3))
    · rw [show ((k + 1 : Nat) : Int) = (k : Int) + 1 by omega] at this
      exact this
    · rw [up_at, hck]
      show _ = cn L n k + _
      by_cases q : (n : Int) = L k
      · rw [if_pos q, if_pos q.symm, q]
      · rw [if_neg q, if_neg (fun e => q e.symm), hc n hn]; omega
theorem s_build23_69 {K : bm_S → Prop} {c : Int} {L : Int → Int} {a : Nat} (ha : (a : Int) ≤ 704) (hcap : (a : Int) ≤ bm_L 22 c ∧ bm_L 22 c ≤ 704) (v2 : bm_V) : ∀ (m n : Nat) (v5 v6 : bm_V) (ι : bm_S), n + m = 16 → 1 ≤ n → (∀ s : Nat, s < a → ι 23 0 s = L s ∧ 0 ≤ L s ∧ L s ≤ 15) → (∀ n : Nat, n ≤ 15 → ι 21 c n = mc L a n) → ι 3 c 2 = bef L a n → (∀ s : Nat, s < a → 1 ≤ L s → L s < n → ι 22 c (bef L a (L s).toNat + cn L (L s) s) = (s : Int)) →
    (∀ ι' : bm_S, (∀ n : Nat, n ≤ 15 → ι' 21 c n = mc L a n) → ι' 3 c 2 = bef L a 16 → (∀ s : Nat, s < a → 1 ≤ L s → L s < 16 → ι' 22 c (bef L a (L s).toNat + cn L (L s) s) = (s : Int)) → Fr (fun t i j => i = c ∧ (t = 22 ∨ t = 3 ∧ j = 2)) ι ι' → K ι') → bW sc 23 69 [br 3 c, br 23 0, v2, bi (a : Int), bi (n : Int), v5, v6] [] ι (bk0 K H)
  | 0, n, v5, v6, ι, hn, hn1, hT, hc, hu, hs, h => by
    have e : n = 16 := by omega
    subst e
    exact e_C_build_23_69 (bif_t (by omega) (h ι hc hu hs (Fr.refl _ _)))
  | m + 1, n, v5, v6, ι, hn, hn1, hT, hc, hu, hs, h => by
    have hb1 := bef_nn L a n
    have hb2 := bef_le L n a
    have hm1 := mc_nn L a n
    have hmn := hc n (by omega)
    have hmcn : mc L a n = cn L n a := by unfold mc; rw [if_neg (by omega)]
    -- the signs of this length
    have inner : ∀ (d k : Nat) (ι1 : bm_S), k + d = a → (∀ s : Nat, s < a → ι1 23 0 s = L s ∧ 0 ≤ L s ∧ L s ≤ 15) → (∀ n : Nat, n ≤ 15 → ι1 21 c n = mc L a n) → ι1 3 c 2 = bef L a n + cn L n k → (∀ s : Nat, s < a → 1 ≤ L s → (L s < n ∨ L s = n ∧ s < k) → ι1 22 c (bef L a (L s).toNat + cn L (L s) s) = (s : Int)) → Fr (fun t i j => i = c ∧ (t = 22 ∨ t = 3 ∧ j = 2)) ι ι1 →
        bW sc 23 93 [br 3 c, br 23 0, v2, bi (a : Int), bi (n : Int), bi (bef L a n + mc L a n), bi (k : Int)] [] ι1 (bk0 K H) := by
      intro d
      induction d with
      | zero =>
        intro k ι1 hk hT1 hc1 hu1 hs1 hF1
        have e : k = a := by omega
        subst e
        refine e_C_build_23_93 (bif_t (by omega) ⟨by omega, ?_⟩)
        have hgo := s_build23_69 (K := K) ha hcap v2 m (n + 1) (bi (bef L k n + mc L k n)) (bi (k : Int)) ι1 (by omega) (by omega) hT1 hc1 (by rw [hu1, ← hmcn]; rfl) (fun s s0 s1 s2 => hs1 s s0 s1 (by omega)) (fun ι' g1 g2 g3 g4 => h ι' g1 g2 g3 (hF1.trans g4))
        rw [show ((n + 1 : Nat) : Int) = (n : Int) + 1 by omega] at hgo
        exact hgo
      | succ d ih =>
        intro k ι1 hk hT1 hc1 hu1 hs1 hF1
        have hk1 := hT1 k (by omega)
        refine e_C_build_23_93 (bif_f (by omega) (bif_i (fun q => ⟨by omega, ?_⟩) (fun q => ⟨by omega, bif_i (fun q2 => ?_) (fun q2 => ⟨by omega, ?_⟩)⟩)))
        · -- all of them are found
          have hall : ∀ s : Nat, s < a → L s = n → s < k := fun s s0 s1 => by
            by_cases q3 : s < k
            · exact q3
            · have h5 := cn_lt L n s0 s1
              have h6 := cn_le L n (show k ≤ s by omega)
              omega
          have hka := cn_le L n (show k ≤ a by omega)
          have hgo := s_build23_69 (K := K) ha hcap v2 m (n + 1) (bi (bef L a n + mc L a n)) (bi (k : Int)) ι1 (by omega) (by omega) hT1 hc1 (by
            rw [hu1]; show _ = bef L a n + mc L a n; omega) (fun s s0 s1 s2 => hs1 s s0 s1 (by
              by_cases q4 : L s = n
              · exact Or.inr ⟨q4, hall s s0 q4⟩
              · exact Or.inl (by omega))) (fun ι' g1 g2 g3 g4 => h ι' g1 g2 g3 (hF1.trans g4))
          rw [show ((n + 1 : Nat) : Int) = (n : Int) + 1 by omega] at hgo
          exact hgo
        · have hLk : L k = n := by rw [← hk1.1]; exact q2
          have hcl := cn_lt L n (s := k) (a := a) (by omega) hLk
          have hcnn := cn_nn L n k
          have hsum : bef L a n + cn L n a ≤ a := by
            have h5 := bef_le L (n + 1) a
            have h6 : bef L a (n + 1) = bef L a n + mc L a n := rfl
            omega
          refine ⟨by omega, by omega, by omega, ?_⟩
          have hgo := ih (k + 1) (up (up ι1 3 c 2 (ι1 3 c 2 + 1)) 22 c (ι1 3 c 2) (k : Int)) (by omega) (fun s hs => by rw [up_k (by decide), up_k (by decide)]; exact hT1 s hs) (fun j hj => by rw [up_k (by decide), up_k (by decide)]; exact hc1 j hj) (by
            rw [up_k (by decide), up_s, hu1]
            show _ = bef L a n + (cn L n k + _)
            rw [if_pos hLk]; omega) (fun s s0 s1 s2 => ?_) ((hF1.u (by omega)).u (by omega))
          · rw [show ((k + 1 : Nat) : Int) = (k : Int) + 1 by omega] at hgo
            exact hgo
          · rw [up_at, up_k (by decide), hu1]
            by_cases q3 : L s = n ∧ s = k
            · rw [if_pos (by rw [q3.1, q3.2]; simp), q3.2]
            · have hne : bef L a (L s).toNat + cn L (L s) s ≠ bef L a n + cn L n k := by
                rcases s2 with s2 | ⟨s2, s3⟩
                · have h5 := cn_lt L (L s) s0 rfl
                  have h6 := bef_mono L a ((L s).toNat + 1) (n - ((L s).toNat + 1))
                  rw [show (L s).toNat + 1 + (n - ((L s).toNat + 1)) = n by omega] at h6
                  have h7 : bef L a ((L s).toNat + 1) = bef L a (L s).toNat + mc L a (L s).toNat := rfl
                  have h8 : mc L a (L s).toNat = cn L (L s) a := by unfold mc; rw [if_neg (by omega), show (((L s).toNat : Nat) : Int) = L s by omega]
                  omega
                · have h5 := cn_lt L n (s := s) (a := k) (by omega) s2
                  rw [s2, show ((n : Int)).toNat = n by omega]
                  omega
              rw [if_neg hne]
              exact hs1 s s0 s1 (by omega)
        · have hLk : ¬ L k = n := by rw [← hk1.1]; exact q2
          have hgo := ih (k + 1) ι1 (by omega) hT1 hc1 (by
            rw [hu1]
            show _ = bef L a n + (cn L n k + _)
            rw [if_neg hLk]; omega) (fun s s0 s1 s2 => hs1 s s0 s1 (by
              rcases s2 with s2 | ⟨s2, s3⟩
              · exact Or.inl s2
              · refine Or.inr ⟨s2, ?_⟩
                by_cases q3 : s = k
                · rw [q3] at s2; exact absurd s2 hLk
                · omega)) hF1
          rw [show ((k + 1 : Nat) : Int) = (k : Int) + 1 by omega] at hgo
          exact hgo
    refine e_C_build_23_69 (bif_f (by omega) ⟨by omega, by omega, ?_⟩)
    rw [hu, hmn]
    exact inner a 0 ι (by omega) hT hc (by rw [hu]; show _ = bef L a n + 0; omega) (fun s s0 s1 s2 => hs s s0 s1 (by omega)) (Fr.refl _ _)
theorem s_build_23 {K : bm_S → Prop} {ι : bm_S} {c : Int} {L : Int → Int} {a : Nat} (ha : (a : Int) ≤ 704) (hcap : (a : Int) ≤ bm_L 22 c ∧ bm_L 22 c ≤ 704) (hT : ∀ s : Nat, s < a → ι 23 0 s = L s ∧ 0 ≤ L s ∧ L s ≤ 15) (h : ∀ ι', CodeC ι' c (-1) L a → Fr (fun t i j => i = c ∧ (t = 21 ∨ t = 22 ∨ t = 3 ∧ j = 2)) ι ι' → K ι') : bC sc 23 [br 3 c, br 23 0, bi (a : Int)] ι (bk0 K H) := by
  refine e_C_build_23_0 (s_fill_21 fun ι1 f1 f2 => ?_)
  rw [show min (a : Int) (min (bm_L 22 c) 704) = (a : Int) by omega]
  refine s_build23_26 ha _ _ _ a 0 ι1 (by omega) (fun s hs => by rw [f2 23 0 s (by omega)]; exact hT s hs) (fun n hn => by rw [f1 n (by omega) (by omega)]; rfl) fun ι2 g1 g2 g3 => ?_
  refine s_build23_69 ha hcap _ 15 1 _ _ ι2 (by omega) (by omega) (fun s hs => by rw [g3 23 0 s (by omega), f2 23 0 s (by omega)]; exact hT s hs) g1 (by rw [g2]; rfl) (fun s s0 s1 s2 => by omega) fun ι3 k1 k2 k3 k4 => ?_
  refine h ι3 (Or.inr ⟨rfl, k2, fun n n0 n1 => k1 n n1, fun s s0 s1 s2 => k3 s s0 s1 (by omega)⟩) (((f2.wide fun t i j q => by omega).trans (g3.wide fun t i j q => by omega)).trans (k4.wide fun t i j q => by omega))
theorem s_build24_26 {K : bm_S → Prop} {c : Int} {L : Int → Int} {a : Nat} (ha : (a : Int) ≤ 18) (v2 v5 v6 : bm_V) : ∀ (m : Nat) (k : Nat) (ι : bm_S), k + m = a → (∀ s : Nat, s < a → ι 24 0 s = L s ∧ 0 ≤ L s ∧ L s ≤ 15) → (∀ n : Nat, n ≤ 15 → ι 21 c n = cn L n k) →
    (∀ ι' : bm_S, (∀ n : Nat, n ≤ 15 → ι' 21 c n = mc L a n) → ι' 3 c 2 = 0 → Fr (fun t i j => i = c ∧ (t = 21 ∨ t = 3 ∧ j = 2)) ι ι' → bW sc 23 69 [br 3 c, br 24 0, v2, bi (a : Int), bi 1, v5, v6] [] ι' (bk0 K H)) → bW sc 23 26 [br 3 c, br 24 0, v2, bi (a : Int), bi (k : Int), v5, v6] [] ι (bk0 K H)
  | 0, k, ι, hk, hT, hc, h => by
    refine e_C_build_24_26 (bif_t (by omega) ⟨by omega, ?_⟩)
    refine h _ (fun n hn => ?_) (by simp (disch := omega) only [up_s, up_k, up_j, up_i]) (((Fr.refl _ _).u (by omega)).u (by omega))
    rw [up_k (by decide), up_at]
    unfold mc
    by_cases q : n = 0
    · rw [if_pos q, if_pos (by omega)]
    · rw [if_neg q, if_neg (by omega), hc n hn, show k = a by omega]
  | m + 1, k, ι, hk, hT, hc, h => by
    have hk1 := hT k (by omega)
    have hmod : ι 24 0 k % 16 = L k := by omega
    have hcn := cn_nn L (L k) k
    have hck := hc (L k).toNat (by omega)
    rw [show (((L k).toNat : Nat) : Int) = L k by omega] at hck
    refine e_C_build_24_26 (bif_f (by omega) ?_)
    rw [hmod]
    refine ⟨by omega, by omega, by omega, by omega, by omega, ?_⟩
    have := s_build24_26 (K := K) (c := c) (L := L) ha v2 v5 v6 m (k + 1) (up ι 21 c (L k) (ι 21 c (L k) + 1)) (by omega) (fun s hs => by rw [up_k (by decide)]; exact hT s hs) (fun n hn => ?_) (fun ι' g1 g2 g3 => h ι' g1 g2 (((Fr.refl _ _).u (by omega)).trans g3))
    · rw [show ((k + 1 : Nat) : Int) = (k : Int) + 1 by omega] at this
      exact this
    · rw [up_at, hck]
      show _ = cn L n k + _
      by_cases q : (n : Int) = L k
      · rw [if_pos q, if_pos q.symm, q]
      · rw [if_neg q, if_neg (fun e => q e.symm), hc n hn]; omega
theorem s_build24_69 {K : bm_S → Prop} {c : Int} {L : Int → Int} {a : Nat} (ha : (a : Int) ≤ 18) (hcap : (a : Int) ≤ bm_L 22 c ∧ bm_L 22 c ≤ 704) (v2 : bm_V) : ∀ (m n : Nat) (v5 v6 : bm_V) (ι : bm_S), n + m = 16 → 1 ≤ n → (∀ s : Nat, s < a → ι 24 0 s = L s ∧ 0 ≤ L s ∧ L s ≤ 15) → (∀ n : Nat, n ≤ 15 → ι 21 c n = mc L a n) → ι 3 c 2 = bef L a n → (∀ s : Nat, s < a → 1 ≤ L s → L s < n → ι 22 c (bef L a (L s).toNat + cn L (L s) s) = (s : Int)) →
    (∀ ι' : bm_S, (∀ n : Nat, n ≤ 15 → ι' 21 c n = mc L a n) → ι' 3 c 2 = bef L a 16 → (∀ s : Nat, s < a → 1 ≤ L s → L s < 16 → ι' 22 c (bef L a (L s).toNat + cn L (L s) s) = (s : Int)) → Fr (fun t i j => i = c ∧ (t = 22 ∨ t = 3 ∧ j = 2)) ι ι' → K ι') → bW sc 23 69 [br 3 c, br 24 0, v2, bi (a : Int), bi (n : Int), v5, v6] [] ι (bk0 K H)
  | 0, n, v5, v6, ι, hn, hn1, hT, hc, hu, hs, h => by
    have e : n = 16 := by omega
    subst e
    exact e_C_build_24_69 (bif_t (by omega) (h ι hc hu hs (Fr.refl _ _)))
  | m + 1, n, v5, v6, ι, hn, hn1, hT, hc, hu, hs, h => by
    have hb1 := bef_nn L a n
    have hb2 := bef_le L n a
    have hm1 := mc_nn L a n
    have hmn := hc n (by omega)
    have hmcn : mc L a n = cn L n a := by unfold mc; rw [if_neg (by omega)]
    -- the signs of this length
    have inner : ∀ (d k : Nat) (ι1 : bm_S), k + d = a → (∀ s : Nat, s < a → ι1 24 0 s = L s ∧ 0 ≤ L s ∧ L s ≤ 15) → (∀ n : Nat, n ≤ 15 → ι1 21 c n = mc L a n) → ι1 3 c 2 = bef L a n + cn L n k → (∀ s : Nat, s < a → 1 ≤ L s → (L s < n ∨ L s = n ∧ s < k) → ι1 22 c (bef L a (L s).toNat + cn L (L s) s) = (s : Int)) → Fr (fun t i j => i = c ∧ (t = 22 ∨ t = 3 ∧ j = 2)) ι ι1 →
        bW sc 23 93 [br 3 c, br 24 0, v2, bi (a : Int), bi (n : Int), bi (bef L a n + mc L a n), bi (k : Int)] [] ι1 (bk0 K H) := by
      intro d
      induction d with
      | zero =>
        intro k ι1 hk hT1 hc1 hu1 hs1 hF1
        have e : k = a := by omega
        subst e
        refine e_C_build_24_93 (bif_t (by omega) ⟨by omega, ?_⟩)
        have hgo := s_build24_69 (K := K) ha hcap v2 m (n + 1) (bi (bef L k n + mc L k n)) (bi (k : Int)) ι1 (by omega) (by omega) hT1 hc1 (by rw [hu1, ← hmcn]; rfl) (fun s s0 s1 s2 => hs1 s s0 s1 (by omega)) (fun ι' g1 g2 g3 g4 => h ι' g1 g2 g3 (hF1.trans g4))
        rw [show ((n + 1 : Nat) : Int) = (n : Int) + 1 by omega] at hgo
        exact hgo
      | succ d ih =>
        intro k ι1 hk hT1 hc1 hu1 hs1 hF1
        have hk1 := hT1 k (by omega)
        refine e_C_build_24_93 (bif_f (by omega) (bif_i (fun q => ⟨by omega, ?_⟩) (fun q => ⟨by omega, bif_i (fun q2 => ?_) (fun q2 => ⟨by omega, ?_⟩)⟩)))
        · -- all of them are found
          have hall : ∀ s : Nat, s < a → L s = n → s < k := fun s s0 s1 => by
            by_cases q3 : s < k
            · exact q3
            · have h5 := cn_lt L n s0 s1
              have h6 := cn_le L n (show k ≤ s by omega)
              omega
          have hka := cn_le L n (show k ≤ a by omega)
          have hgo := s_build24_69 (K := K) ha hcap v2 m (n + 1) (bi (bef L a n + mc L a n)) (bi (k : Int)) ι1 (by omega) (by omega) hT1 hc1 (by
            rw [hu1]; show _ = bef L a n + mc L a n; omega) (fun s s0 s1 s2 => hs1 s s0 s1 (by
              by_cases q4 : L s = n
              · exact Or.inr ⟨q4, hall s s0 q4⟩
              · exact Or.inl (by omega))) (fun ι' g1 g2 g3 g4 => h ι' g1 g2 g3 (hF1.trans g4))
          rw [show ((n + 1 : Nat) : Int) = (n : Int) + 1 by omega] at hgo
          exact hgo
        · have hLk : L k = n := by rw [← hk1.1]; exact q2
          have hcl := cn_lt L n (s := k) (a := a) (by omega) hLk
          have hcnn := cn_nn L n k
          have hsum : bef L a n + cn L n a ≤ a := by
            have h5 := bef_le L (n + 1) a
            have h6 : bef L a (n + 1) = bef L a n + mc L a n := rfl
            omega
          refine ⟨by omega, by omega, by omega, ?_⟩
          have hgo := ih (k + 1) (up (up ι1 3 c 2 (ι1 3 c 2 + 1)) 22 c (ι1 3 c 2) (k : Int)) (by omega) (fun s hs => by rw [up_k (by decide), up_k (by decide)]; exact hT1 s hs) (fun j hj => by rw [up_k (by decide), up_k (by decide)]; exact hc1 j hj) (by
            rw [up_k (by decide), up_s, hu1]
            show _ = bef L a n + (cn L n k + _)
            rw [if_pos hLk]; omega) (fun s s0 s1 s2 => ?_) ((hF1.u (by omega)).u (by omega))
          · rw [show ((k + 1 : Nat) : Int) = (k : Int) + 1 by omega] at hgo
            exact hgo
          · rw [up_at, up_k (by decide), hu1]
            by_cases q3 : L s = n ∧ s = k
            · rw [if_pos (by rw [q3.1, q3.2]; simp), q3.2]
            · have hne : bef L a (L s).toNat + cn L (L s) s ≠ bef L a n + cn L n k := by
                rcases s2 with s2 | ⟨s2, s3⟩
                · have h5 := cn_lt L (L s) s0 rfl
                  have h6 := bef_mono L a ((L s).toNat + 1) (n - ((L s).toNat + 1))
                  rw [show (L s).toNat + 1 + (n - ((L s).toNat + 1)) = n by omega] at h6
                  have h7 : bef L a ((L s).toNat + 1) = bef L a (L s).toNat + mc L a (L s).toNat := rfl
                  have h8 : mc L a (L s).toNat = cn L (L s) a := by unfold mc; rw [if_neg (by omega), show (((L s).toNat : Nat) : Int) = L s by omega]
                  omega
                · have h5 := cn_lt L n (s := s) (a := k) (by omega) s2
                  rw [s2, show ((n : Int)).toNat = n by omega]
                  omega
              rw [if_neg hne]
              exact hs1 s s0 s1 (by omega)
        · have hLk : ¬ L k = n := by rw [← hk1.1]; exact q2
          have hgo := ih (k + 1) ι1 (by omega) hT1 hc1 (by
            rw [hu1]
            show _ = bef L a n + (cn L n k + _)
            rw [if_neg hLk]; omega) (fun s s0 s1 s2 => hs1 s s0 s1 (by
              rcases s2 with s2 | ⟨s2, s3⟩
              · exact Or.inl s2
              · refine Or.inr ⟨s2, ?_⟩
                by_cases q3 : s = k
                · rw [q3] at s2; exact absurd s2 hLk
                · omega)) hF1
          rw [show ((k + 1 : Nat) : Int) = (k : Int) + 1 by omega] at hgo
          exact hgo
    refine e_C_build_24_69 (bif_f (by omega) ⟨by omega, by omega, ?_⟩)
    rw [hu, hmn]
    exact inner a 0 ι (by omega) hT hc (by rw [hu]; show _ = bef L a n + 0; omega) (fun s s0 s1 s2 => hs s s0 s1 (by omega)) (Fr.refl _ _)
theorem s_build_24 {K : bm_S → Prop} {ι : bm_S} {c : Int} {L : Int → Int} {a : Nat} (ha : (a : Int) ≤ 18) (hcap : (a : Int) ≤ bm_L 22 c ∧ bm_L 22 c ≤ 704) (hT : ∀ s : Nat, s < a → ι 24 0 s = L s ∧ 0 ≤ L s ∧ L s ≤ 15) (h : ∀ ι', CodeC ι' c (-1) L a → Fr (fun t i j => i = c ∧ (t = 21 ∨ t = 22 ∨ t = 3 ∧ j = 2)) ι ι' → K ι') : bC sc 23 [br 3 c, br 24 0, bi (a : Int)] ι (bk0 K H) := by
  refine e_C_build_24_0 (s_fill_21 fun ι1 f1 f2 => ?_)
  rw [show min (a : Int) (min (bm_L 22 c) 18) = (a : Int) by omega]
  refine s_build24_26 ha _ _ _ a 0 ι1 (by omega) (fun s hs => by rw [f2 24 0 s (by omega)]; exact hT s hs) (fun n hn => by rw [f1 n (by omega) (by omega)]; rfl) fun ι2 g1 g2 g3 => ?_
  refine s_build24_69 ha hcap _ 15 1 _ _ ι2 (by omega) (by omega) (fun s hs => by rw [g3 24 0 s (by omega), f2 24 0 s (by omega)]; exact hT s hs) g1 (by rw [g2]; rfl) (fun s s0 s1 s2 => by omega) fun ι3 k1 k2 k3 k4 => ?_
  refine h ι3 (Or.inr ⟨rfl, k2, fun n n0 n1 => k1 n n1, fun s s0 s1 s2 => k3 s s0 s1 (by omega)⟩) (((f2.wide fun t i j q => by omega).trans (g3.wide fun t i j q => by omega)).trans (k4.wide fun t i j q => by omega))
theorem s_setLone {K : bm_S → Prop} {ι : bm_S} {c x : Int} {L : Int → Int} {a : Nat} (hx : 0 ≤ x) (hcap : 1 ≤ bm_L 22 c) (h : ∀ ι', CodeC ι' c x L a → Fr (fun t i j => i = c ∧ (t = 21 ∨ t = 22 ∨ t = 3 ∧ j = 2)) ι ι' → K ι') : bC sc 22 [br 3 c, bi x] ι (bk0 K H) := by
  refine e_C_setLone_0 (s_fill_21 fun ι1 f1 f2 => ⟨by omega, ?_⟩)
  refine h _ (Or.inl ⟨hx, by simp (disch := omega) only [up_s, up_k, up_j, up_i], by simp (disch := omega) only [up_s, up_k, up_j, up_i], fun n n0 n1 => by simp (disch := omega) only [up_s, up_k, up_j, up_i]; exact f1 n (by omega) (by omega)⟩) (((f2.wide fun t i j q => by omega).u (by omega)).u (by omega))
theorem m_lay5 {K : bm_S → Prop} {st : Int} {L : Int → Int} {a : Nat} (ha : a ≤ 704) (hst : 0 ≤ st ∧ st + a ≤ 18000) : ∀ (m n : Nat) (v5 : bm_V) (ι : bm_S), n + m = 16 → 1 ≤ n → (∀ s : Nat, s < a → ι 71 0 (st + s) = L s) → (∀ s : Nat, s < a → 1 ≤ L s → L s < n → ι 72 0 (st + s) = Fc L a (L s).toNat + cn L (L s) s) →
    (∀ ι' : bm_S, (∀ s : Nat, s < a → 1 ≤ L s → L s < 16 → ι' 72 0 (st + s) = Fc L a (L s).toNat + cn L (L s) s) → Fr (fun t i j => t = 72 ∧ st ≤ j ∧ j < st + a) ι ι' → K ι') → bW sc 171 5 [br 13 0, bi st, bi (a : Int), bi (Fc L a n), bi (n : Int), v5] [] ι (bk0 K H)
  | 0, n, v5, ι, hn, hn1, hT, hs, h => by
    have e : n = 16 := by omega
    subst e
    exact e_M_layCodes_5 (bif_t (by omega) (h ι hs (Fr.refl _ _)))
  | m + 1, n, v5, ι, hn, hn1, hT, hs, h => by
    have hF := Fc_b L a ha n (by omega)
    have hF1 := Fc_b L a ha (n + 1) (by omega)
    have hmcn : mc L a n = cn L n a := by unfold mc; rw [if_neg (by omega)]
    have hmc := mc_nn L a n
    have inner : ∀ (d k : Nat) (ι1 : bm_S), k + d = a → (∀ s : Nat, s < a → ι1 71 0 (st + s) = L s) → (∀ s : Nat, s < a → 1 ≤ L s → (L s < n ∨ L s = n ∧ s < k) → ι1 72 0 (st + s) = Fc L a (L s).toNat + cn L (L s) s) → Fr (fun t i j => t = 72 ∧ st ≤ j ∧ j < st + a) ι ι1 →
        bW sc 171 15 [br 13 0, bi st, bi (a : Int), bi (Fc L a n + cn L n k), bi (n : Int), bi (k : Int)] [] ι1 (bk0 K H) := by
      intro d
      induction d with
      | zero =>
        intro k ι1 hk hT1 hs1 hF1'
        have e : k = a := by omega
        subst e
        have hfc : 2 * (Fc L k n + cn L n k) = Fc L k (n + 1) := by rw [← hmcn]; rfl
        refine e_M_layCodes_15 (bif_t (by omega) ?_)
        rw [hfc]
        refine ⟨by omega, by omega, ?_⟩
        have hgo := m_lay5 (K := K) ha hst m (n + 1) (bi (k : Int)) ι1 (by omega) (by omega) hT1 (fun s s0 s1 s2 => hs1 s s0 s1 (by omega)) (fun ι' g1 g2 => h ι' g1 (hF1'.trans g2))
        rw [show ((n + 1 : Nat) : Int) = (n : Int) + 1 by omega] at hgo
        exact hgo
      | succ d ih =>
        intro k ι1 hk hT1 hs1 hF1'
        have hcn := cn_nn L n k
        refine e_M_layCodes_15 (bif_f (by omega) ⟨by omega, by omega, bif_i (fun q2 => ⟨by omega, by omega, by omega, by omega, ?_⟩) (fun q2 => ⟨by omega, ?_⟩)⟩)
        · have hLk : L k = n := by rw [← hT1 k (by omega)]; exact q2
          have hgo := ih (k + 1) (up ι1 72 0 (st + k) (Fc L a n + cn L n k)) (by omega) (fun s hs => by rw [up_k (by decide)]; exact hT1 s hs) (fun s s0 s1 s2 => ?_) (hF1'.u (by omega))
          · have e : cn L n (k + 1) = cn L n k + 1 := by
              show cn L n k + _ = _
              rw [if_pos hLk]
            rw [e, show ((k + 1 : Nat) : Int) = (k : Int) + 1 by omega, ← Int.add_assoc] at hgo
            exact hgo
          · rw [up_at]
            by_cases q3 : s = k
            · rw [if_pos (by rw [q3]), q3, hLk]; simp
            · rw [if_neg (by omega)]
              exact hs1 s s0 s1 (by omega)
        · have hLk : ¬ L k = n := by rw [← hT1 k (by omega)]; exact q2
          have hgo := ih (k + 1) ι1 (by omega) hT1 (fun s s0 s1 s2 => hs1 s s0 s1 (by
            rcases s2 with s2 | ⟨s2, s3⟩
            · exact Or.inl s2
            · refine Or.inr ⟨s2, ?_⟩
              by_cases q3 : s = k
              · rw [q3] at s2; exact absurd s2 hLk
              · omega)) hF1'
          have e : cn L n (k + 1) = cn L n k := by
            show cn L n k + _ = _
            rw [if_neg hLk]; omega
          rw [e, show ((k + 1 : Nat) : Int) = (k : Int) + 1 by omega] at hgo
          exact hgo
    refine e_M_layCodes_5 (bif_f (by omega) ?_)
    have hgo := inner a 0 ι (by omega) hT (fun s s0 s1 s2 => hs s s0 s1 (by omega)) (Fr.refl _ _)
    rw [show Fc L a n + cn L n 0 = Fc L a n by show _ + (0 : Int) = _; omega] at hgo
    exact hgo
theorem m_layCodes {K : bm_S → Prop} {ι : bm_S} {st lone : Int} {L : Int → Int} {a : Nat} (ha : a ≤ 704) (hst : 0 ≤ st ∧ st + a ≤ 18000) (hT : ∀ s : Nat, s < a → ι 71 0 (st + s) = L s) (hl : ι 73 0 st = lone) (h : ∀ ι', CodeM ι' st lone L a → Fr (fun t i j => t = 72 ∧ st ≤ j ∧ j < st + a) ι ι' → K ι') : bC sc 171 [br 13 0, bi st, bi (a : Int)] ι (bk0 K H) := by
  refine e_M_layCodes_0 ?_
  exact m_lay5 ha hst 15 1 _ ι (by omega) (by omega) hT (fun s s0 s1 s2 => by omega) fun ι' g1 g2 => h ι' ⟨by rw [g2 73 0 st (by omega), hl], fun s hs => ⟨by rw [g2 71 0 _ (by omega)]; exact hT s hs, fun s1 s2 => g1 s hs s1 (by omega)⟩⟩ g2
theorem m_noLen2 {K : bm_S → Prop} {st : Int} {a : Nat} (hst : 0 ≤ st ∧ st + a ≤ 18000) (ha : 0 < a) : ∀ (m k : Nat) (ι : bm_S), k + m = a → (∀ ι' : bm_S, (∀ s : Nat, k ≤ s → s < a → ι' 71 0 (st + s) = 0) → (∀ s : Nat, s < k → ι' 71 0 (st + s) = ι 71 0 (st + s)) → ι' 73 0 st = -1 → Fr (fun t i j => t = 71 ∧ st ≤ j ∧ j < st + a ∨ t = 73 ∧ j = st) ι ι' → K ι') → bW sc 172 2 [br 13 0, bi st, bi (a : Int), bi (k : Int)] [] ι (bk0 K H)
  | 0, k, ι, hk, h => e_M_noLengths_2 (bif_t (by omega) ⟨by omega, h _ (fun s s0 s1 => by omega) (fun s s0 => by simp (disch := omega) only [up_s, up_k, up_j, up_i]) (by simp (disch := omega) only [up_s, up_k, up_j, up_i]) ((Fr.refl _ _).u (by omega))⟩)
  | m + 1, k, ι, hk, h => by
    refine e_M_noLengths_2 (bif_f (by omega) ⟨by omega, by omega, by omega, ?_⟩)
    have hgo := m_noLen2 (K := K) hst ha m (k + 1) (up ι 71 0 (st + k) 0) (by omega) (fun ι' g1 g2 g3 g4 => h ι' (fun s s0 s1 => by
      by_cases q : s = k
      · rw [g2 s (by omega), q, up_s]
      · exact g1 s (by omega) s1) (fun s s0 => by rw [g2 s (by omega), up_j (by omega)]) g3 (((Fr.refl _ _).u (by omega)).trans g4))
    rw [show ((k + 1 : Nat) : Int) = (k : Int) + 1 by omega] at hgo
    exact hgo
theorem m_noLengths {K : bm_S → Prop} {ι : bm_S} {st : Int} {a : Nat} (hst : 0 ≤ st ∧ st + a ≤ 18000) (ha : 0 < a) (h : ∀ ι', (∀ s : Nat, s < a → ι' 71 0 (st + s) = 0) → ι' 73 0 st = -1 → Fr (fun t i j => t = 71 ∧ st ≤ j ∧ j < st + a ∨ t = 73 ∧ j = st) ι ι' → K ι') : bC sc 172 [br 13 0, bi st, bi (a : Int)] ι (bk0 K H) :=
  e_M_noLengths_0 (m_noLen2 hst ha a 0 ι (by omega) fun ι' g1 _ g3 g4 => h ι' (fun s s1 => g1 s (by omega) s1) g3 g4)
end Build
