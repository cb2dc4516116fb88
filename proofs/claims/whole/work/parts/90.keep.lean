/-! the model: no maps; what it keeps of a part's codes -/
section Keep
variable {sc : bm_Sc}
theorem m_noMaps24 {K : bm_S → Prop} {H : Nat × Int → bm_S → Prop} : ∀ (m : Nat) (k : Int) (ι : bm_S), k = 48 - m → 0 ≤ k → (∀ ι' : bm_S, (∀ j, ι' 84 0 j = if k ≤ j ∧ j < 48 then 0 else ι 84 0 j) → Fr (fun t i j => t = 84) ι ι' → K ι') → bW sc 197 24 [br 13 0, bi k] [] ι (bk0 K H)
  | 0, k, ι, hk, h0, h => e_M_noMaps_24 (bif_t (by omega) (h ι (fun j => by rw [if_neg (by omega)]) (Fr.refl _ _)))
  | m + 1, k, ι, hk, h0, h => by
    refine e_M_noMaps_24 (bif_f (by omega) ⟨by omega, by omega, ?_⟩)
    refine m_noMaps24 m (k + 1) _ (by omega) (by omega) fun ι' a1 a2 => h ι' (fun j => ?_) (((Fr.refl _ _).u (by omega)).trans a2)
    rw [a1, up_at]
    by_cases c : j = k
    · rw [if_neg (by omega), if_pos c, if_pos (by omega)]
    · by_cases d : k ≤ j ∧ j < 48
      · rw [if_pos (by omega), if_pos d]
      · rw [if_neg (by omega), if_neg c, if_neg d]
theorem m_noMaps2 {K : bm_S → Prop} {H : Nat × Int → bm_S → Prop} : ∀ (m : Nat) (k : Int) (ι : bm_S), k = 768 - m → 0 ≤ k → (∀ ι' : bm_S, (∀ j, ι' 83 0 j = if k ≤ j ∧ j < 768 then 0 else ι 83 0 j) → Fr (fun t i j => t = 83) ι ι' → bW sc 197 24 [br 13 0, bi 0] [] ι' (bk0 K H)) → bW sc 197 2 [br 13 0, bi k] [] ι (bk0 K H)
  | 0, k, ι, hk, h0, h => e_M_noMaps_2 (bif_t (by omega) (h ι (fun j => by rw [if_neg (by omega)]) (Fr.refl _ _)))
  | m + 1, k, ι, hk, h0, h => by
    refine e_M_noMaps_2 (bif_f (by omega) ⟨by omega, by omega, ?_⟩)
    refine m_noMaps2 m (k + 1) _ (by omega) (by omega) fun ι' a1 a2 => h ι' (fun j => ?_) (((Fr.refl _ _).u (by omega)).trans a2)
    rw [a1, up_at]
    by_cases c : j = k
    · rw [if_neg (by omega), if_pos c, if_pos (by omega)]
    · by_cases d : k ≤ j ∧ j < 768
      · rw [if_pos (by omega), if_pos d]
      · rw [if_neg (by omega), if_neg c, if_neg d]
theorem m_noMaps {K : bm_S → Prop} {H : Nat × Int → bm_S → Prop} {ι : bm_S} (h : ∀ ι' : bm_S, (∀ j, 0 ≤ j → j < 768 → ι' 83 0 j = 0) → (∀ j, 0 ≤ j → j < 48 → ι' 84 0 j = 0) → Fr (fun t i j => t = 83 ∨ t = 84) ι ι' → K ι') : bC sc 197 [br 13 0] ι (bk0 K H) := by
  refine e_M_noMaps_0 (m_noMaps2 768 0 ι (by omega) (by omega) fun ι1 a1 a2 => m_noMaps24 48 0 ι1 (by omega) (by omega) fun ι2 b1 b2 => ?_)
  refine h ι2 (fun j x y => by rw [b2 83 0 j (by omega), a1, if_pos ⟨x, y⟩]) (fun j x y => by rw [b1, if_pos ⟨x, y⟩]) ((a2.wide fun t i j q => by grind).trans (b2.wide fun t i j q => by grind))
theorem m_keep31 {Q : bm_O → bm_S → Prop} : ∀ (m : Nat) (k : Int) (ι : bm_S), k = 3 - m → 0 ≤ k → (∀ ι' : bm_S, (∀ j, ι' 85 0 j = if k ≤ j ∧ j < 3 then ι 78 0 j else ι 85 0 j) → Fr (fun t i j => t = 85) ι ι' → bW sc 199 56 [br 13 0, bi 0] [] ι' Q) → bW sc 199 31 [br 13 0, bi k] [] ι Q
  | 0, k, ι, hk, h0, h => e_M_keepCodes_31 (bif_t (by omega) (h ι (fun j => by rw [if_neg (by omega)]) (Fr.refl _ _)))
  | m + 1, k, ι, hk, h0, h => by
    refine e_M_keepCodes_31 (bif_f (by omega) ⟨by omega, by omega, by omega, ?_⟩)
    refine m_keep31 m (k + 1) _ (by omega) (by omega) fun ι' a1 a2 => h ι' (fun j => ?_) (((Fr.refl _ _).u (by omega)).trans a2)
    rw [a1, up_at, up_k (by omega)]
    by_cases c : j = k
    · rw [if_neg (by omega), if_pos c, if_pos (by omega), c]
    · by_cases d : k ≤ j ∧ j < 3
      · rw [if_pos (by omega), if_pos d]
      · rw [if_neg (by omega), if_neg c, if_neg d]
theorem m_keep56 {Q : bm_O → bm_S → Prop} : ∀ (m : Nat) (k : Int) (ι : bm_S), k = 18000 - m → 0 ≤ k → (∀ ι' : bm_S, (∀ j, ι' 86 0 j = if k ≤ j ∧ j < 18000 then ι 71 0 j else ι 86 0 j) → Fr (fun t i j => t = 86) ι ι' → bW sc 199 83 [br 13 0, bi 0] [] ι' Q) → bW sc 199 56 [br 13 0, bi k] [] ι Q
  | 0, k, ι, hk, h0, h => e_M_keepCodes_56 (bif_t (by omega) (h ι (fun j => by rw [if_neg (by omega)]) (Fr.refl _ _)))
  | m + 1, k, ι, hk, h0, h => by
    refine e_M_keepCodes_56 (bif_f (by omega) ⟨by omega, by omega, by omega, ?_⟩)
    refine m_keep56 m (k + 1) _ (by omega) (by omega) fun ι' a1 a2 => h ι' (fun j => ?_) (((Fr.refl _ _).u (by omega)).trans a2)
    rw [a1, up_at, up_k (by omega)]
    by_cases c : j = k
    · rw [if_neg (by omega), if_pos c, if_pos (by omega), c]
    · by_cases d : k ≤ j ∧ j < 18000
      · rw [if_pos (by omega), if_pos d]
      · rw [if_neg (by omega), if_neg c, if_neg d]
theorem m_keep83 {Q : bm_O → bm_S → Prop} : ∀ (m : Nat) (k : Int) (ι : bm_S), k = 768 - m → 0 ≤ k → (∀ ι' : bm_S, (∀ j, ι' 87 0 j = if k ≤ j ∧ j < 768 then ι 83 0 j else ι 87 0 j) → Fr (fun t i j => t = 87) ι ι' → bW sc 199 110 [br 13 0, bi 0] [] ι' Q) → bW sc 199 83 [br 13 0, bi k] [] ι Q
  | 0, k, ι, hk, h0, h => e_M_keepCodes_83 (bif_t (by omega) (h ι (fun j => by rw [if_neg (by omega)]) (Fr.refl _ _)))
  | m + 1, k, ι, hk, h0, h => by
    refine e_M_keepCodes_83 (bif_f (by omega) ⟨by omega, by omega, by omega, ?_⟩)
    refine m_keep83 m (k + 1) _ (by omega) (by omega) fun ι' a1 a2 => h ι' (fun j => ?_) (((Fr.refl _ _).u (by omega)).trans a2)
    rw [a1, up_at, up_k (by omega)]
    by_cases c : j = k
    · rw [if_neg (by omega), if_pos c, if_pos (by omega), c]
    · by_cases d : k ≤ j ∧ j < 768
      · rw [if_pos (by omega), if_pos d]
      · rw [if_neg (by omega), if_neg c, if_neg d]
theorem m_keep110 {Q : bm_O → bm_S → Prop} : ∀ (m : Nat) (k : Int) (ι : bm_S), k = 48 - m → 0 ≤ k → (∀ ι' : bm_S, (∀ j, ι' 88 0 j = if k ≤ j ∧ j < 48 then ι 84 0 j else ι 88 0 j) → Fr (fun t i j => t = 88) ι ι' → Q (.inl none) ι') → bW sc 199 110 [br 13 0, bi k] [] ι Q
  | 0, k, ι, hk, h0, h => e_M_keepCodes_110 (bif_t (by omega) (h ι (fun j => by rw [if_neg (by omega)]) (Fr.refl _ _)))
  | m + 1, k, ι, hk, h0, h => by
    refine e_M_keepCodes_110 (bif_f (by omega) ⟨by omega, by omega, by omega, ?_⟩)
    refine m_keep110 m (k + 1) _ (by omega) (by omega) fun ι' a1 a2 => h ι' (fun j => ?_) (((Fr.refl _ _).u (by omega)).trans a2)
    rw [a1, up_at, up_k (by omega)]
    by_cases c : j = k
    · rw [if_neg (by omega), if_pos c, if_pos (by omega), c]
    · by_cases d : k ≤ j ∧ j < 48
      · rw [if_pos (by omega), if_pos d]
      · rw [if_neg (by omega), if_neg c, if_neg d]
abbrev gKe (t : Nat) (i j : Int) : Prop := t = 85 ∨ t = 86 ∨ t = 87 ∨ t = 88 ∨ t = 13 ∧ (j = 33 ∨ j = 35 ∨ j = 36 ∨ j = 37)
/-- the model keeps a part's codes -/
theorem m_keep {K : bm_S → Prop} {H : Nat × Int → bm_S → Prop} {ι : bm_S} {pf dr : Int} (hpf : 0 ≤ pf ∧ pf < 4) (hdr : 0 ≤ dr ∧ dr ≤ 120) (e1 : ι 13 0 22 = pf) (e2 : ι 13 0 23 = dr) (h : ∀ ι' : bm_S, ι' 13 0 33 = 1 → ι' 13 0 35 = ι 13 0 29 → ι' 13 0 36 = ι 13 0 30 → ι' 13 0 37 = 16 + dr + 48 * bm_p2 pf → (∀ j, 0 ≤ j → j < 3 → ι' 85 0 j = ι 78 0 j) → (∀ j, 0 ≤ j → j < 18000 → ι' 86 0 j = ι 71 0 j) → (∀ j, 0 ≤ j → j < 768 → ι' 87 0 j = ι 83 0 j) → (∀ j, 0 ≤ j → j < 48 → ι' 88 0 j = ι 84 0 j) → Fr gKe ι ι' → K ι') : bC sc 199 [br 13 0] ι (bk0 K H) := by
  have hp2 := p2_3 hpf
  refine e_M_keepCodes_0 ⟨by omega, e_M_distanceSigns_0 ?_⟩
  simp (disch := omega) only [up_s, up_k, up_j, up_i]
  rw [e1, e2]
  refine ⟨by omega, ⟨by omega, by omega⟩, by omega, ?_⟩
  generalize hS : (up (up (up (up ι 13 0 33 1) 13 0 35 (ι 13 0 29)) 13 0 36 (ι 13 0 30)) 13 0 37 (16 + dr + 48 * bm_p2 pf)) = ι0
  have hF0 : Fr gKe ι ι0 := by
    rw [← hS]
    exact ((((Fr.refl _ _).u (by omega)).u (by omega)).u (by omega)).u (by omega)
  have f1 : ι0 13 0 33 = 1 := by rw [← hS]; simp (disch := omega) only [up_s, up_k, up_j, up_i]
  have f2 : ι0 13 0 35 = ι 13 0 29 := by rw [← hS]; simp (disch := omega) only [up_s, up_k, up_j, up_i]
  have f3 : ι0 13 0 36 = ι 13 0 30 := by rw [← hS]; simp (disch := omega) only [up_s, up_k, up_j, up_i]
  have f4 : ι0 13 0 37 = 16 + dr + 48 * bm_p2 pf := by rw [← hS]; simp (disch := omega) only [up_s, up_k, up_j, up_i]
  show bW sc 199 31 [br 13 0, bi 0] [] (up (up (up (up ι 13 0 33 1) 13 0 35 (ι 13 0 29)) 13 0 36 (ι 13 0 30)) 13 0 37 (16 + dr + 48 * bm_p2 pf)) (bk0 K H)
  rw [hS]
  refine m_keep31 3 0 ι0 (by omega) (by omega) fun ι1 a1 a2 => m_keep56 18000 0 ι1 (by omega) (by omega) fun ι2 b1 b2 => m_keep83 768 0 ι2 (by omega) (by omega) fun ι3 c1 c2 => m_keep110 48 0 ι3 (by omega) (by omega) fun ι4 d1 d2 => ?_
  have g (j : Int) : ι4 13 0 j = ι0 13 0 j := by rw [d2 13 0 j (by omega), c2 13 0 j (by omega), b2 13 0 j (by omega), a2 13 0 j (by omega)]
  refine h ι4 (by rw [g]; exact f1) (by rw [g]; exact f2) (by rw [g]; exact f3) (by rw [g]; exact f4) (fun j x y => ?_) (fun j x y => ?_) (fun j x y => ?_) (fun j x y => ?_) ((((hF0.trans (a2.wide fun t i j q => by grind)).trans (b2.wide fun t i j q => by grind)).trans (c2.wide fun t i j q => by grind)).trans (d2.wide fun t i j q => by grind))
  · rw [d2 85 0 j (by omega), c2 85 0 j (by omega), b2 85 0 j (by omega), a1, if_pos ⟨x, y⟩, hF0 78 0 j (by omega)]
  · rw [d2 86 0 j (by omega), c2 86 0 j (by omega), b1, if_pos ⟨x, y⟩, a2 71 0 j (by omega), hF0 71 0 j (by omega)]
  · rw [d2 87 0 j (by omega), c1, if_pos ⟨x, y⟩, b2 83 0 j (by omega), a2 83 0 j (by omega), hF0 83 0 j (by omega)]
  · rw [d1, if_pos ⟨x, y⟩, c2 84 0 j (by omega), b2 84 0 j (by omega), a2 84 0 j (by omega), hF0 84 0 j (by omega)]
end Keep
