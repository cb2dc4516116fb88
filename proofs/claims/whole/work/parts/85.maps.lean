/-! maps: the front undone -/
/-- the front behind a move of the place pl, which bears v -/
def mf (F : Int → Int) (pl v : Int) : Int → Int := fun j => if j = 0 then v else if 0 < j ∧ j ≤ pl then F (j - 1) else F j
def un (F M : Int → Int) : Nat → Int → (Int → Int)
  | 0, _ => M
  | m + 1, i => un (mf F (M i) (F (M i))) (fs M i (F (M i))) m (i + 1)
theorem mf_rg {F : Int → Int} {tr pl : Int} (hF : ∀ j, 0 ≤ j → j < tr → 0 ≤ F j ∧ F j < tr) (hp : 0 ≤ pl ∧ pl < tr) : ∀ j, 0 ≤ j → j < tr → 0 ≤ mf F pl (F pl) j ∧ mf F pl (F pl) j < tr := by
  intro j j0 j1
  unfold mf
  split
  · exact hF pl hp.1 hp.2
  · split
    · exact hF (j - 1) (by omega) (by omega)
    · exact hF j j0 j1
theorem un_rg {tr n : Int} : ∀ (m : Nat) (i : Int) (F M : Int → Int), i + m = n → 0 ≤ i → (∀ j, 0 ≤ j → j < n → 0 ≤ M j ∧ M j < tr) → (∀ j, 0 ≤ j → j < tr → 0 ≤ F j ∧ F j < tr) → ∀ j, 0 ≤ j → j < n → 0 ≤ un F M m i j ∧ un F M m i j < tr
  | 0, i, F, M, hi, h0, hM, hF => hM
  | m + 1, i, F, M, hi, h0, hM, hF => by
    have hMi := hM i h0 (by omega)
    refine un_rg m (i + 1) _ _ (by omega) (by omega) (fun j a b => ?_) (mf_rg hF hMi)
    have := hM j a b
    have := hF (M i) hMi.1 hMi.2
    unfold fs; split <;> omega
theorem un_out {n : Int} : ∀ (m : Nat) (i : Int) (F M : Int → Int), i + m = n → ∀ j, n ≤ j → un F M m i j = M j
  | 0, i, F, M, hi, j, hj => rfl
  | m + 1, i, F, M, hi, j, hj => by
    show un _ _ m (i + 1) j = _
    rw [un_out m (i + 1) _ _ (by omega) j hj, fs_n (by omega)]
section Maps
variable {sc : bm_Sc}

/-! the map of kind 46 -/
theorem s_un46_51 {Q : bm_O → bm_S → Prop} {cm n i pl v : Int} {F : Int → Int} (hi : 0 ≤ i ∧ i < 768) (hpl : 0 ≤ pl ∧ pl < 12) : ∀ (k : Nat) (ι : bm_S) (v4 : bm_V), (k : Int) ≤ pl → (∀ j, 0 ≤ j → j < 12 → ι 53 0 j = if (k : Int) < j ∧ j ≤ pl then F (j - 1) else F j) →
    (∀ (ι' : bm_S) (v4 v6 : bm_V), (∀ j, 0 ≤ j → j < 12 → ι' 53 0 j = mf F pl v j) → ι' 46 cm i = v → (∀ j, j ≠ i → ι' 46 cm j = ι 46 cm j) → Fr (fun t i j => t = 53 ∨ t = 46 ∧ i = cm) ι ι' → bW sc 85 23 [br 8 0, br 46 cm, bi n, bi (i + 1), v4, bi v, v6] [] ι' Q) → bW sc 85 51 [br 8 0, br 46 cm, bi n, bi i, v4, bi v, bi (k : Int)] [] ι Q
  | 0, ι, v4, hk, hF, h => by
    refine e_O_undoFront_46_51 (bif_t (by omega) ⟨by omega, by omega, by omega, h _ _ _ (fun j j0 j1 => ?_) (by simp (disch := omega) only [up_s, up_k, up_j, up_i]) (fun j hj => by simp (disch := omega) only [up_s, up_k, up_j, up_i]) (((Fr.refl _ _).u (by omega)).u (by omega))⟩)
    rw [up_k (by decide), up_at, hF j j0 j1]
    unfold mf
    by_cases q : j = 0
    · rw [if_pos q, if_pos q]
    · rw [if_neg q, if_neg q]
      by_cases q2 : j ≤ pl
      · rw [if_pos (by omega), if_pos (by omega)]
      · rw [if_neg (by omega), if_neg (by omega)]
  | k + 1, ι, v4, hk, hF, h => by
    refine e_O_undoFront_46_51 (bif_f (by omega) ⟨by omega, by omega, by omega, by omega, ?_⟩)
    rw [show ((k + 1 : Nat) : Int) + (-1) = (k : Int) by omega, show ((k + 1 : Nat) : Int) - 1 = (k : Int) by omega]
    refine s_un46_51 (F := F) hi hpl k _ _ (by omega) (fun j j0 j1 => ?_) fun ι' v4 v6 g1 g2 g3 g4 => h ι' v4 v6 g1 g2 (fun j hj => by rw [g3 j hj, up_k (by decide)]) (((Fr.refl _ _).u (by omega)).trans g4)
    rw [up_at, hF k (by omega) (by omega), hF j j0 j1, if_neg (show ¬ (((k + 1 : Nat) : Int) < k ∧ (k : Int) ≤ pl) by omega)]
    by_cases q : j = ((k + 1 : Nat) : Int)
    · rw [if_pos q, if_pos (by omega), q, show ((k + 1 : Nat) : Int) - 1 = (k : Int) by omega]
    · rw [if_neg q]
      by_cases q2 : ((k + 1 : Nat) : Int) < j ∧ j ≤ pl
      · rw [if_pos q2, if_pos (by omega)]
      · rw [if_neg q2, if_neg (by omega)]
theorem m_un83_205 {Q : bm_O → bm_S → Prop} {n i pl v : Int} {F : Int → Int} {v3 w4 v6 : bm_V} (hi : 0 ≤ i ∧ i < 768) (hpl : 0 ≤ pl ∧ pl < 12) : ∀ (k : Nat) (ι : bm_S), (k : Int) ≤ pl → (∀ j, 0 ≤ j → j < 12 → ι 89 0 j = if (k : Int) < j ∧ j ≤ pl then F (j - 1) else F j) →
    (∀ (ι' : bm_S) (v8 : bm_V), (∀ j, 0 ≤ j → j < 12 → ι' 89 0 j = mf F pl v j) → ι' 83 0 i = v → (∀ j, j ≠ i → ι' 83 0 j = ι 83 0 j) → Fr (fun t i j => t = 89 ∨ t = 83) ι ι' → bW sc 196 180 [br 13 0, br 83 0, bi n, v3, w4, bi (i + 1), v6, bi v, v8] [] ι' Q) → bW sc 196 205 [br 13 0, br 83 0, bi n, v3, w4, bi i, v6, bi v, bi (k : Int)] [] ι Q
  | 0, ι, hk, hF, h => by
    refine e_M_readMap_83_205 (bif_t (by omega) ⟨by omega, by omega, by omega, h _ _ (fun j j0 j1 => ?_) (by simp (disch := omega) only [up_s, up_k, up_j, up_i]) (fun j hj => by simp (disch := omega) only [up_s, up_k, up_j, up_i]) (((Fr.refl _ _).u (by omega)).u (by omega))⟩)
    rw [up_k (by decide), up_at, hF j j0 j1]
    unfold mf
    by_cases q : j = 0
    · rw [if_pos q, if_pos q]
    · rw [if_neg q, if_neg q]
      by_cases q2 : j ≤ pl
      · rw [if_pos (by omega), if_pos (by omega)]
      · rw [if_neg (by omega), if_neg (by omega)]
  | k + 1, ι, hk, hF, h => by
    refine e_M_readMap_83_205 (bif_f (by omega) ⟨by omega, by omega, by omega, by omega, ?_⟩)
    rw [show ((k + 1 : Nat) : Int) + (-1) = (k : Int) by omega, show ((k + 1 : Nat) : Int) - 1 = (k : Int) by omega]
    refine m_un83_205 (F := F) hi hpl k _ (by omega) (fun j j0 j1 => ?_) fun ι' v8 g1 g2 g3 g4 => h ι' v8 g1 g2 (fun j hj => by rw [g3 j hj, up_k (by decide)]) (((Fr.refl _ _).u (by omega)).trans g4)
    rw [up_at, hF k (by omega) (by omega), hF j j0 j1, if_neg (show ¬ (((k + 1 : Nat) : Int) < k ∧ (k : Int) ≤ pl) by omega)]
    by_cases q : j = ((k + 1 : Nat) : Int)
    · rw [if_pos q, if_pos (by omega), q, show ((k + 1 : Nat) : Int) - 1 = (k : Int) by omega]
    · rw [if_neg q]
      by_cases q2 : ((k + 1 : Nat) : Int) < j ∧ j ≤ pl
      · rw [if_pos q2, if_pos (by omega)]
      · rw [if_neg q2, if_neg (by omega)]
/-- the front is undone -/
theorem s_un46_23 {K : bm_S → Prop} {H : Nat × Int → bm_S → Prop} {cm n tr : Int} (hn : n ≤ 768) (htr : tr ≤ 12) : ∀ (m : Nat) (i : Int) (F M : Int → Int) (ι : bm_S) (v4 v5 v6 : bm_V), i = n - m → 0 ≤ i → (∀ j, 0 ≤ j → j < n → 0 ≤ M j ∧ M j < tr) → (∀ j, 0 ≤ j → j < tr → 0 ≤ F j ∧ F j < tr) → (∀ j, 0 ≤ j → j < 12 → ι 53 0 j = F j) → (∀ j, 0 ≤ j → j < 768 → ι 46 cm j = M j) →
    (∀ ι' : bm_S, (∀ j, 0 ≤ j → j < 768 → ι' 46 cm j = un F M m i j) → Fr (fun t i j => t = 53 ∨ t = 46 ∧ i = cm) ι ι' → K ι') → bW sc 85 23 [br 8 0, br 46 cm, bi n, bi i, v4, v5, v6] [] ι (bk0 K H)
  | 0, i, F, M, ι, v4, v5, v6, hi, h0, hM, hF, e53, eT, h => e_O_undoFront_46_23 (bif_t (by omega) (h ι eT (Fr.refl _ _)))
  | m + 1, i, F, M, ι, v4, v5, v6, hi, h0, hM, hF, e53, eT, h => by
    have hMi := hM i h0 (by omega)
    refine e_O_undoFront_46_23 (bif_f (by omega) ?_)
    rw [eT i h0 (by omega), show min (M i) 11 = M i by omega, e53 (M i) hMi.1 (by omega)]
    refine ⟨by omega, by omega, ?_⟩
    have hgo := s_un46_51 (sc := sc) (Q := bk0 K H) (cm := cm) (n := n) (i := i) (pl := M i) (v := F (M i)) (F := F) (by omega) (by omega) (M i).toNat ι (bi (M i)) (by omega) (fun j j0 j1 => by rw [if_neg (by omega)]; exact e53 j j0 j1) fun ι1 v4 v6 a1 a2 a3 a4 => ?_
    · rw [show (((M i).toNat : Nat) : Int) = M i by omega] at hgo
      exact hgo
    · have hFm := hF (M i) hMi.1 hMi.2
      refine s_un46_23 hn htr m (i + 1) (mf F (M i) (F (M i))) (fs M i (F (M i))) ι1 _ _ _ (by omega) (by omega) (fun j j0 j1 => ?_) (fun j j0 j1 => ?_) a1 (fun j j0 j1 => ?_) fun ι' g1 g2 => h ι' g1 (a4.trans g2)
      · have := hM j j0 j1
        unfold fs; split <;> omega
      · exact mf_rg hF hMi j j0 j1
      · unfold fs
        by_cases q : j = i
        · rw [if_pos q, q, a2]
        · rw [if_neg q, a3 j q]; exact eT j j0 j1
theorem m_un83_180 {K : bm_S → Prop} {H : Nat × Int → bm_S → Prop} {n tr : Int} {v3 w4 : bm_V} (hn : n ≤ 768) (htr : tr ≤ 12) : ∀ (m : Nat) (i : Int) (F M : Int → Int) (ι : bm_S) (v6 v7 v8 : bm_V), i = n - m → 0 ≤ i → (∀ j, 0 ≤ j → j < n → 0 ≤ M j ∧ M j < tr) → (∀ j, 0 ≤ j → j < tr → 0 ≤ F j ∧ F j < tr) → (∀ j, 0 ≤ j → j < 12 → ι 89 0 j = F j) → (∀ j, 0 ≤ j → j < 768 → ι 83 0 j = M j) →
    (∀ ι' : bm_S, (∀ j, 0 ≤ j → j < 768 → ι' 83 0 j = un F M m i j) → Fr (fun t i j => t = 89 ∨ t = 83) ι ι' → K ι') → bW sc 196 180 [br 13 0, br 83 0, bi n, v3, w4, bi i, v6, v7, v8] [] ι (bk0 K H)
  | 0, i, F, M, ι, v6, v7, v8, hi, h0, hM, hF, e53, eT, h => e_M_readMap_83_180 (bif_t (by omega) (h ι eT (Fr.refl _ _)))
  | m + 1, i, F, M, ι, v6, v7, v8, hi, h0, hM, hF, e53, eT, h => by
    have hMi := hM i h0 (by omega)
    refine e_M_readMap_83_180 (bif_f (by omega) ?_)
    rw [eT i h0 (by omega), e53 (M i) hMi.1 (by omega)]
    refine ⟨by omega, by omega, ?_⟩
    have hgo := m_un83_205 (sc := sc) (Q := bk0 K H) (n := n) (i := i) (pl := M i) (v := F (M i)) (F := F) (v3 := v3) (w4 := w4) (v6 := bi (M i)) (by omega) (by omega) (M i).toNat ι (by omega) (fun j j0 j1 => by rw [if_neg (by omega)]; exact e53 j j0 j1) fun ι1 v8 a1 a2 a3 a4 => ?_
    · rw [show (((M i).toNat : Nat) : Int) = M i by omega] at hgo
      exact hgo
    · refine m_un83_180 hn htr m (i + 1) (mf F (M i) (F (M i))) (fs M i (F (M i))) ι1 _ _ _ (by omega) (by omega) (fun j j0 j1 => ?_) (fun j j0 j1 => ?_) a1 (fun j j0 j1 => ?_) fun ι' g1 g2 => h ι' g1 (a4.trans g2)
      · have := hM j j0 j1
        have hFm := hF (M i) hMi.1 hMi.2
        unfold fs; split <;> omega
      · exact mf_rg hF hMi j j0 j1
      · unfold fs
        by_cases q : j = i
        · rw [if_pos q, q, a2]
        · rw [if_neg q, a3 j q]; exact eT j j0 j1
theorem s_un46_2 {Q : bm_O → bm_S → Prop} {cm n : Int} {v4 v5 v6 : bm_V} : ∀ (m : Nat) (k : Int) (ι : bm_S), k = 12 - m → 0 ≤ k → (∀ j, 0 ≤ j → j < k → ι 53 0 j = j) → (∀ ι' : bm_S, (∀ j, 0 ≤ j → j < 12 → ι' 53 0 j = j) → Fr (fun t i j => t = 53) ι ι' → bW sc 85 23 [br 8 0, br 46 cm, bi n, bi 0, v4, v5, v6] [] ι' Q) → bW sc 85 2 [br 8 0, br 46 cm, bi n, bi k, v4, v5, v6] [] ι Q
  | 0, k, ι, hk, h0, e, h => e_O_undoFront_46_2 (bif_t (by omega) (h ι (fun j a b => e j a (by omega)) (Fr.refl _ _)))
  | m + 1, k, ι, hk, h0, e, h => e_O_undoFront_46_2 (bif_f (by omega) ⟨by omega, by omega, s_un46_2 m (k + 1) _ (by omega) (by omega) (fun j a b => by
      rw [up_at]
      by_cases q : j = k
      · rw [if_pos q, q]
      · rw [if_neg q]; exact e j a (by omega)) fun ι' g1 g2 => h ι' g1 (((Fr.refl _ _).u rfl).trans g2)⟩)
theorem m_un83_155 {Q : bm_O → bm_S → Prop} {n : Int} {v3 w4 v5 v7 v8 : bm_V} : ∀ (m : Nat) (k : Int) (ι : bm_S), k = 12 - m → 0 ≤ k → (∀ j, 0 ≤ j → j < k → ι 89 0 j = j) → (∀ (ι' : bm_S) (v6 : bm_V), (∀ j, 0 ≤ j → j < 12 → ι' 89 0 j = j) → Fr (fun t i j => t = 89) ι ι' → bW sc 196 180 [br 13 0, br 83 0, bi n, v3, w4, bi 0, v6, v7, v8] [] ι' Q) → bW sc 196 155 [br 13 0, br 83 0, bi n, v3, w4, v5, bi k, v7, v8] [] ι Q
  | 0, k, ι, hk, h0, e, h => e_M_readMap_83_155 (bif_t (by omega) (h ι _ (fun j a b => e j a (by omega)) (Fr.refl _ _)))
  | m + 1, k, ι, hk, h0, e, h => e_M_readMap_83_155 (bif_f (by omega) ⟨by omega, by omega, m_un83_155 m (k + 1) _ (by omega) (by omega) (fun j a b => by
      rw [up_at]
      by_cases q : j = k
      · rw [if_pos q, q]
      · rw [if_neg q]; exact e j a (by omega)) fun ι' v6 g1 g2 => h ι' v6 g1 (((Fr.refl _ _).u rfl).trans g2)⟩)

/-! the map of kind 47 -/
theorem s_un47_51 {Q : bm_O → bm_S → Prop} {cm n i pl v : Int} {F : Int → Int} (hi : 0 ≤ i ∧ i < 48) (hpl : 0 ≤ pl ∧ pl < 12) : ∀ (k : Nat) (ι : bm_S) (v4 : bm_V), (k : Int) ≤ pl → (∀ j, 0 ≤ j → j < 12 → ι 53 0 j = if (k : Int) < j ∧ j ≤ pl then F (j - 1) else F j) →
    (∀ (ι' : bm_S) (v4 v6 : bm_V), (∀ j, 0 ≤ j → j < 12 → ι' 53 0 j = mf F pl v j) → ι' 47 cm i = v → (∀ j, j ≠ i → ι' 47 cm j = ι 47 cm j) → Fr (fun t i j => t = 53 ∨ t = 47 ∧ i = cm) ι ι' → bW sc 85 23 [br 8 0, br 47 cm, bi n, bi (i + 1), v4, bi v, v6] [] ι' Q) → bW sc 85 51 [br 8 0, br 47 cm, bi n, bi i, v4, bi v, bi (k : Int)] [] ι Q
  | 0, ι, v4, hk, hF, h => by
    refine e_O_undoFront_47_51 (bif_t (by omega) ⟨by omega, by omega, by omega, h _ _ _ (fun j j0 j1 => ?_) (by simp (disch := omega) only [up_s, up_k, up_j, up_i]) (fun j hj => by simp (disch := omega) only [up_s, up_k, up_j, up_i]) (((Fr.refl _ _).u (by omega)).u (by omega))⟩)
    rw [up_k (by decide), up_at, hF j j0 j1]
    unfold mf
    by_cases q : j = 0
    · rw [if_pos q, if_pos q]
    · rw [if_neg q, if_neg q]
      by_cases q2 : j ≤ pl
      · rw [if_pos (by omega), if_pos (by omega)]
      · rw [if_neg (by omega), if_neg (by omega)]
  | k + 1, ι, v4, hk, hF, h => by
    refine e_O_undoFront_47_51 (bif_f (by omega) ⟨by omega, by omega, by omega, by omega, ?_⟩)
    rw [show ((k + 1 : Nat) : Int) + (-1) = (k : Int) by omega, show ((k + 1 : Nat) : Int) - 1 = (k : Int) by omega]
    refine s_un47_51 (F := F) hi hpl k _ _ (by omega) (fun j j0 j1 => ?_) fun ι' v4 v6 g1 g2 g3 g4 => h ι' v4 v6 g1 g2 (fun j hj => by rw [g3 j hj, up_k (by decide)]) (((Fr.refl _ _).u (by omega)).trans g4)
    rw [up_at, hF k (by omega) (by omega), hF j j0 j1, if_neg (show ¬ (((k + 1 : Nat) : Int) < k ∧ (k : Int) ≤ pl) by omega)]
    by_cases q : j = ((k + 1 : Nat) : Int)
    · rw [if_pos q, if_pos (by omega), q, show ((k + 1 : Nat) : Int) - 1 = (k : Int) by omega]
    · rw [if_neg q]
      by_cases q2 : ((k + 1 : Nat) : Int) < j ∧ j ≤ pl
      · rw [if_pos q2, if_pos (by omega)]
      · rw [if_neg q2, if_neg (by omega)]
theorem m_un84_205 {Q : bm_O → bm_S → Prop} {n i pl v : Int} {F : Int → Int} {v3 w4 v6 : bm_V} (hi : 0 ≤ i ∧ i < 48) (hpl : 0 ≤ pl ∧ pl < 12) : ∀ (k : Nat) (ι : bm_S), (k : Int) ≤ pl → (∀ j, 0 ≤ j → j < 12 → ι 89 0 j = if (k : Int) < j ∧ j ≤ pl then F (j - 1) else F j) →
    (∀ (ι' : bm_S) (v8 : bm_V), (∀ j, 0 ≤ j → j < 12 → ι' 89 0 j = mf F pl v j) → ι' 84 0 i = v → (∀ j, j ≠ i → ι' 84 0 j = ι 84 0 j) → Fr (fun t i j => t = 89 ∨ t = 84) ι ι' → bW sc 196 180 [br 13 0, br 84 0, bi n, v3, w4, bi (i + 1), v6, bi v, v8] [] ι' Q) → bW sc 196 205 [br 13 0, br 84 0, bi n, v3, w4, bi i, v6, bi v, bi (k : Int)] [] ι Q
  | 0, ι, hk, hF, h => by
    refine e_M_readMap_84_205 (bif_t (by omega) ⟨by omega, by omega, by omega, h _ _ (fun j j0 j1 => ?_) (by simp (disch := omega) only [up_s, up_k, up_j, up_i]) (fun j hj => by simp (disch := omega) only [up_s, up_k, up_j, up_i]) (((Fr.refl _ _).u (by omega)).u (by omega))⟩)
    rw [up_k (by decide), up_at, hF j j0 j1]
    unfold mf
    by_cases q : j = 0
    · rw [if_pos q, if_pos q]
    · rw [if_neg q, if_neg q]
      by_cases q2 : j ≤ pl
      · rw [if_pos (by omega), if_pos (by omega)]
      · rw [if_neg (by omega), if_neg (by omega)]
  | k + 1, ι, hk, hF, h => by
    refine e_M_readMap_84_205 (bif_f (by omega) ⟨by omega, by omega, by omega, by omega, ?_⟩)
    rw [show ((k + 1 : Nat) : Int) + (-1) = (k : Int) by omega, show ((k + 1 : Nat) : Int) - 1 = (k : Int) by omega]
    refine m_un84_205 (F := F) hi hpl k _ (by omega) (fun j j0 j1 => ?_) fun ι' v8 g1 g2 g3 g4 => h ι' v8 g1 g2 (fun j hj => by rw [g3 j hj, up_k (by decide)]) (((Fr.refl _ _).u (by omega)).trans g4)
    rw [up_at, hF k (by omega) (by omega), hF j j0 j1, if_neg (show ¬ (((k + 1 : Nat) : Int) < k ∧ (k : Int) ≤ pl) by omega)]
    by_cases q : j = ((k + 1 : Nat) : Int)
    · rw [if_pos q, if_pos (by omega), q, show ((k + 1 : Nat) : Int) - 1 = (k : Int) by omega]
    · rw [if_neg q]
      by_cases q2 : ((k + 1 : Nat) : Int) < j ∧ j ≤ pl
      · rw [if_pos q2, if_pos (by omega)]
      · rw [if_neg q2, if_neg (by omega)]
/-- the front is undone -/
theorem s_un47_23 {K : bm_S → Prop} {H : Nat × Int → bm_S → Prop} {cm n tr : Int} (hn : n ≤ 48) (htr : tr ≤ 12) : ∀ (m : Nat) (i : Int) (F M : Int → Int) (ι : bm_S) (v4 v5 v6 : bm_V), i = n - m → 0 ≤ i → (∀ j, 0 ≤ j → j < n → 0 ≤ M j ∧ M j < tr) → (∀ j, 0 ≤ j → j < tr → 0 ≤ F j ∧ F j < tr) → (∀ j, 0 ≤ j → j < 12 → ι 53 0 j = F j) → (∀ j, 0 ≤ j → j < 48 → ι 47 cm j = M j) →
    (∀ ι' : bm_S, (∀ j, 0 ≤ j → j < 48 → ι' 47 cm j = un F M m i j) → Fr (fun t i j => t = 53 ∨ t = 47 ∧ i = cm) ι ι' → K ι') → bW sc 85 23 [br 8 0, br 47 cm, bi n, bi i, v4, v5, v6] [] ι (bk0 K H)
  | 0, i, F, M, ι, v4, v5, v6, hi, h0, hM, hF, e53, eT, h => e_O_undoFront_47_23 (bif_t (by omega) (h ι eT (Fr.refl _ _)))
  | m + 1, i, F, M, ι, v4, v5, v6, hi, h0, hM, hF, e53, eT, h => by
    have hMi := hM i h0 (by omega)
    refine e_O_undoFront_47_23 (bif_f (by omega) ?_)
    rw [eT i h0 (by omega), show min (M i) 11 = M i by omega, e53 (M i) hMi.1 (by omega)]
    refine ⟨by omega, by omega, ?_⟩
    have hgo := s_un47_51 (sc := sc) (Q := bk0 K H) (cm := cm) (n := n) (i := i) (pl := M i) (v := F (M i)) (F := F) (by omega) (by omega) (M i).toNat ι (bi (M i)) (by omega) (fun j j0 j1 => by rw [if_neg (by omega)]; exact e53 j j0 j1) fun ι1 v4 v6 a1 a2 a3 a4 => ?_
    · rw [show (((M i).toNat : Nat) : Int) = M i by omega] at hgo
      exact hgo
    · have hFm := hF (M i) hMi.1 hMi.2
      refine s_un47_23 hn htr m (i + 1) (mf F (M i) (F (M i))) (fs M i (F (M i))) ι1 _ _ _ (by omega) (by omega) (fun j j0 j1 => ?_) (fun j j0 j1 => ?_) a1 (fun j j0 j1 => ?_) fun ι' g1 g2 => h ι' g1 (a4.trans g2)
      · have := hM j j0 j1
        unfold fs; split <;> omega
      · exact mf_rg hF hMi j j0 j1
      · unfold fs
        by_cases q : j = i
        · rw [if_pos q, q, a2]
        · rw [if_neg q, a3 j q]; exact eT j j0 j1
theorem m_un84_180 {K : bm_S → Prop} {H : Nat × Int → bm_S → Prop} {n tr : Int} {v3 w4 : bm_V} (hn : n ≤ 48) (htr : tr ≤ 12) : ∀ (m : Nat) (i : Int) (F M : Int → Int) (ι : bm_S) (v6 v7 v8 : bm_V), i = n - m → 0 ≤ i → (∀ j, 0 ≤ j → j < n → 0 ≤ M j ∧ M j < tr) → (∀ j, 0 ≤ j → j < tr → 0 ≤ F j ∧ F j < tr) → (∀ j, 0 ≤ j → j < 12 → ι 89 0 j = F j) → (∀ j, 0 ≤ j → j < 48 → ι 84 0 j = M j) →
    (∀ ι' : bm_S, (∀ j, 0 ≤ j → j < 48 → ι' 84 0 j = un F M m i j) → Fr (fun t i j => t = 89 ∨ t = 84) ι ι' → K ι') → bW sc 196 180 [br 13 0, br 84 0, bi n, v3, w4, bi i, v6, v7, v8] [] ι (bk0 K H)
  | 0, i, F, M, ι, v6, v7, v8, hi, h0, hM, hF, e53, eT, h => e_M_readMap_84_180 (bif_t (by omega) (h ι eT (Fr.refl _ _)))
  | m + 1, i, F, M, ι, v6, v7, v8, hi, h0, hM, hF, e53, eT, h => by
    have hMi := hM i h0 (by omega)
    refine e_M_readMap_84_180 (bif_f (by omega) ?_)
    rw [eT i h0 (by omega), e53 (M i) hMi.1 (by omega)]
    refine ⟨by omega, by omega, ?_⟩
    have hgo := m_un84_205 (sc := sc) (Q := bk0 K H) (n := n) (i := i) (pl := M i) (v := F (M i)) (F := F) (v3 := v3) (w4 := w4) (v6 := bi (M i)) (by omega) (by omega) (M i).toNat ι (by omega) (fun j j0 j1 => by rw [if_neg (by omega)]; exact e53 j j0 j1) fun ι1 v8 a1 a2 a3 a4 => ?_
    · rw [show (((M i).toNat : Nat) : Int) = M i by omega] at hgo
      exact hgo
    · refine m_un84_180 hn htr m (i + 1) (mf F (M i) (F (M i))) (fs M i (F (M i))) ι1 _ _ _ (by omega) (by omega) (fun j j0 j1 => ?_) (fun j j0 j1 => ?_) a1 (fun j j0 j1 => ?_) fun ι' g1 g2 => h ι' g1 (a4.trans g2)
      · have := hM j j0 j1
        have hFm := hF (M i) hMi.1 hMi.2
        unfold fs; split <;> omega
      · exact mf_rg hF hMi j j0 j1
      · unfold fs
        by_cases q : j = i
        · rw [if_pos q, q, a2]
        · rw [if_neg q, a3 j q]; exact eT j j0 j1
theorem s_un47_2 {Q : bm_O → bm_S → Prop} {cm n : Int} {v4 v5 v6 : bm_V} : ∀ (m : Nat) (k : Int) (ι : bm_S), k = 12 - m → 0 ≤ k → (∀ j, 0 ≤ j → j < k → ι 53 0 j = j) → (∀ ι' : bm_S, (∀ j, 0 ≤ j → j < 12 → ι' 53 0 j = j) → Fr (fun t i j => t = 53) ι ι' → bW sc 85 23 [br 8 0, br 47 cm, bi n, bi 0, v4, v5, v6] [] ι' Q) → bW sc 85 2 [br 8 0, br 47 cm, bi n, bi k, v4, v5, v6] [] ι Q
  | 0, k, ι, hk, h0, e, h => e_O_undoFront_47_2 (bif_t (by omega) (h ι (fun j a b => e j a (by omega)) (Fr.refl _ _)))
  | m + 1, k, ι, hk, h0, e, h => e_O_undoFront_47_2 (bif_f (by omega) ⟨by omega, by omega, s_un47_2 m (k + 1) _ (by omega) (by omega) (fun j a b => by
      rw [up_at]
      by_cases q : j = k
      · rw [if_pos q, q]
      · rw [if_neg q]; exact e j a (by omega)) fun ι' g1 g2 => h ι' g1 (((Fr.refl _ _).u rfl).trans g2)⟩)
theorem m_un84_155 {Q : bm_O → bm_S → Prop} {n : Int} {v3 w4 v5 v7 v8 : bm_V} : ∀ (m : Nat) (k : Int) (ι : bm_S), k = 12 - m → 0 ≤ k → (∀ j, 0 ≤ j → j < k → ι 89 0 j = j) → (∀ (ι' : bm_S) (v6 : bm_V), (∀ j, 0 ≤ j → j < 12 → ι' 89 0 j = j) → Fr (fun t i j => t = 89) ι ι' → bW sc 196 180 [br 13 0, br 84 0, bi n, v3, w4, bi 0, v6, v7, v8] [] ι' Q) → bW sc 196 155 [br 13 0, br 84 0, bi n, v3, w4, v5, bi k, v7, v8] [] ι Q
  | 0, k, ι, hk, h0, e, h => e_M_readMap_84_155 (bif_t (by omega) (h ι _ (fun j a b => e j a (by omega)) (Fr.refl _ _)))
  | m + 1, k, ι, hk, h0, e, h => e_M_readMap_84_155 (bif_f (by omega) ⟨by omega, by omega, m_un84_155 m (k + 1) _ (by omega) (by omega) (fun j a b => by
      rw [up_at]
      by_cases q : j = k
      · rw [if_pos q, q]
      · rw [if_neg q]; exact e j a (by omega)) fun ι' v6 g1 g2 => h ι' v6 g1 (((Fr.refl _ _).u rfl).trans g2)⟩)
end Maps
