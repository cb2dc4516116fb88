/-! the marks: their code -/
section Marks2
variable {sc : bm_Sc} {β : Int → Int} {lim : Int}
abbrev f73 (t : Nat) (i j : Int) : Prop := i = 73 ∧ (t = 21 ∨ t = 22 ∨ t = 3 ∧ j = 2)
theorem L22_73 : bm_L 22 73 = 18 := rfl
theorem s_bm21 {K : bm_S → Prop} {H : Nat × Int → bm_S → Prop} {v1 : bm_V} {L : Int → Int} {a : Nat} : ∀ (m : Nat) (k : Int) (ι : bm_S), k = 18 - m → 0 ≤ k →
    (∀ ι' : bm_S, Fr f73 ι ι' → (∀ last, k ≤ last → last < 18 → 0 < ι 24 0 last → (∀ s, k ≤ s → s < 18 → s ≠ last → ι 24 0 s ≤ 0) → CodeC ι' 73 last L a) → ((∀ s, k ≤ s → s < 18 → ι 24 0 s ≤ 0) → ∀ x, CodeC ι 73 x L a → CodeC ι' 73 x L a) → K ι') → bW sc 32 21 [br 4 0, v1, bi k] [] ι (bk0 K H)
  | 0, k, ι, hk, h0, h => e_CR_buildMarks_21 (bif_t (by omega) (h ι (Fr.refl _ _) (fun last a1 a2 => by omega) (fun _ x hx => hx)))
  | m + 1, k, ι, hk, h0, h => by
    refine e_CR_buildMarks_21 (bif_f (by omega) ⟨by omega, bif_i (fun q => ⟨by omega, ?_⟩) (fun q => ?_)⟩)
    · refine s_bm21 (L := L) (a := a) m (k + 1) ι (by omega) (by omega) fun ι' g1 g2 g3 => h ι' g1 (fun last a1 a2 a3 a4 => ?_) (fun hs x hx => g3 (fun s s0 s1 => hs s (by omega) s1) x hx)
      have : last ≠ k := fun e => by rw [e] at a3; omega
      exact g2 last (by omega) a2 a3 (fun s s0 s1 s2 => a4 s (by omega) s1 s2)
    · have hL := L22_73
      refine s_setLone (L := L) (a := a) h0 (by omega) fun ι1 a1 a2 => ⟨by omega, ?_⟩
      have e24 : ∀ s, ι1 24 0 s = ι 24 0 s := fun s => a2 24 0 s (by omega)
      refine s_bm21 (L := L) (a := a) m (k + 1) ι1 (by omega) (by omega) fun ι' g1 g2 g3 => h ι' (a2.trans g1) (fun last b1 b2 b3 b4 => ?_) (fun hs x hx => ?_)
      · by_cases e : last = k
        · rw [e]
          exact g3 (fun s s0 s1 => by rw [e24]; exact b4 s (by omega) s1 (by omega)) k a1
        · have := b4 k (by omega) (by omega) (fun q => e q.symm)
          omega
      · have := hs k (by omega) (by omega)
        omega
theorem s_buildMarks {K : bm_S → Prop} {H : Nat × Int → bm_S → Prop} {ι : bm_S} {c : Int} {M : Int → Int} (hM : ∀ s : Int, 0 ≤ s → s < 18 → ι 24 0 s = M s ∧ 0 ≤ M s ∧ M s ≤ 5)
    (h : ∀ ι' : bm_S, Fr f73 ι ι' → (c ≠ 1 → CodeC ι' 73 (-1) M 18) → (c = 1 → ∀ last, 0 ≤ last → last < 18 → (∀ s, 0 ≤ s → s < 18 → (0 < M s ↔ s = last)) → CodeC ι' 73 last M 18) → K ι') : bC sc 32 [br 4 0, bi c] ι (bk0 K H) := by
  have hL := L22_73
  refine e_CR_buildMarks_0 (bif_i (fun q => ?_) (fun q => ?_))
  · refine s_bm21 (L := M) (a := 18) 18 0 ι (by omega) (by omega) fun ι' g1 g2 _ => h ι' g1 (fun e => absurd q e) (fun _ last a1 a2 a3 => ?_)
    refine g2 last a1 a2 ?_ (fun s s0 s1 s2 => ?_)
    · rw [(hM last a1 a2).1]; exact (a3 last a1 a2).mpr rfl
    · rw [(hM s s0 s1).1]
      have := a3 s s0 s1
      have h5 := hM s s0 s1
      by_cases e : 0 < M s
      · exact absurd (this.mp e) s2
      · omega
  · refine s_build_24 (L := M) (a := 18) (by omega) (by omega) (fun s hs => ?_) fun ι' g1 g2 => h ι' g2 (fun _ => g1) (fun e => absurd e q)
    have := hM s (by omega) (by omega)
    exact ⟨this.1, by omega⟩
theorem s_marks_fin {K : bm_S → Prop} {H : Nat × Int → bm_S → Prop} {ι : bm_S} {c S : Int} (hM : ∀ s : Int, 0 ≤ s → s < 18 → 0 ≤ ι 24 0 s ∧ ι 24 0 s ≤ 5) (hr : ι 0 0 3 ≠ 0) (h : ∀ ι' : bm_S, Fr f73 ι ι' → K ι') :
    if c = (0 : Int) then bC sc 3 [br 0 0, bi 13] ι (bk0 (fun ι1 => bC sc 32 [br 4 0, bi c] ι1 (bk0 (fun ι2 => bk0 K H (.inl none) ι2) (bq (bk0 K H)))) (bq (bk0 K H)))
    else (if c ≤ (1 : Int) then bC sc 32 [br 4 0, bi c] ι (bk0 (fun ι3 => bk0 K H (.inl none) ι3) (bq (bk0 K H)))
    else (if S = (32 : Int) then bC sc 32 [br 4 0, bi c] ι (bk0 (fun ι4 => bk0 K H (.inl none) ι4) (bq (bk0 K H)))
    else bC sc 3 [br 0 0, bi 13] ι (bk0 (fun ι5 => bC sc 32 [br 4 0, bi c] ι5 (bk0 (fun ι6 => bk0 K H (.inl none) ι6) (bq (bk0 K H)))) (bq (bk0 K H))))) := by
  have key : ∀ {H2 : Nat × Int → bm_S → Prop}, bC sc 32 [br 4 0, bi c] ι (bk0 (fun ι2 => bk0 K H (.inl none) ι2) H2) := fun {H2} => s_buildMarks (M := ι 24 0) (fun s a b => ⟨rfl, hM s a b⟩) fun ι' g1 _ _ => h ι' g1
  refine bif_i (fun _ => s_broken (fun e => absurd e hr) (fun _ => key)) (fun _ => bif_i (fun _ => key) (fun _ => bif_i (fun _ => key) (fun _ => s_broken (fun e => absurd e hr) (fun _ => key))))
theorem s_marks_err {K : bm_S → Prop} {H : Nat × Int → bm_S → Prop} {ι : bm_S} {c S k : Int} {v1 v5 : bm_V} (hM : ∀ s : Int, 0 ≤ s → s < 18 → 0 ≤ ι 24 0 s ∧ ι 24 0 s ≤ 5) (hr : ι 0 0 3 ≠ 0) (h : ∀ ι' : bm_S, Fr f73 ι ι' → K ι') : bW sc 30 15 [br 4 0, v1, bi S, bi c, bi k, v5] [] ι (bk0 K H) := by
  have fin := s_marks_fin (sc := sc) (H := H) (c := c) (S := S) hM hr h
  exact e_CR_readMarks_15 (bif_i (fun _ => fin) (fun _ => bif_i (fun _ => fin) (fun _ => s_fine (fun e => absurd e hr) (fun _ => bif_t rfl fin))))
abbrev fMk (t : Nat) (i j : Int) : Prop := fR t i j ∨ t = 24 ∨ f73 t i j
abbrev gMk (t : Nat) (i j : Int) : Prop := gR t i j ∨ (t = 71 ∨ t = 72) ∧ 17910 ≤ j ∧ j < 17928 ∨ t = 73 ∧ j = 17910
theorem p32 {n : Int} (h : 1 ≤ n ∧ n ≤ 5) : 1 ≤ 32 / bm_p2 n ∧ 32 / bm_p2 n ≤ 16 ∧ Kw n = 2048 * (32 / bm_p2 n) := by
  rcases (show n = 1 ∨ n = 2 ∨ n = 3 ∨ n = 4 ∨ n = 5 by omega) with rfl | rfl | rfl | rfl | rfl <;> decide
/-- behind the last mark -/
theorem j_marks_exit (hw : wfβ β lim) (k p S c last : Int) (M : Int → Int) (hx : 18 ≤ k ∨ 32 ≤ S) (hp0 : 0 ≤ p) (hp1 : p ≤ lim) (hM : ∀ s : Int, 0 ≤ s → s < 18 → 0 ≤ M s ∧ M s ≤ 5) (hS : ks M 18 = 2048 * S) (hc0 : 0 ≤ c) (hc1 : c = 1 → 0 ≤ last ∧ last < 18 ∧ ∀ s, 0 ≤ s → s < 18 → (0 < M s ↔ s = last)) :
    ∃ (p' r lone : Int) (LM : Int → Int), p ≤ p' ∧ p' ≤ lim ∧ (r = 0 ∨ r = 13 ∨ r = 1 ∧ p' = lim) ∧ (r = 0 → CodeOK lone LM 18) ∧
    (∀ (ι : bm_S) (v1 v5 : bm_V) (K : bm_S → Prop) (H : Nat × Int → bm_S → Prop), cR ι β lim p 0 → (∀ s : Int, 0 ≤ s → s < 18 → ι 24 0 s = M s) → (∀ ι' : bm_S, cR ι' β lim p' r → (r = 0 → CodeC ι' 73 lone LM 18) → Fr fMk ι ι' → K ι') → bW sc 30 15 [br 4 0, v1, bi S, bi c, bi k, v5] [] ι (bk0 K H)) ∧
    (∀ (ι : bm_S) (v1 v6 : bm_V) (K : bm_S → Prop) (H : Nat × Int → bm_S → Prop), mR ι β lim p → (∀ s : Int, 0 ≤ s → s < 18 → ι 71 0 (17910 + s) = M s) → (r = 0 → ∀ ι' : bm_S, mR ι' β lim p' → CodeM ι' 17910 lone LM 18 → Fr gMk ι ι' → K ι') → (r ≠ 0 → ∀ ι' : bm_S, mR ι' β lim p' → ι' 12 0 6 = r → Fr gMk ι ι' → H (12, 0) ι') → bW sc 183 19 [br 13 0, v1, bi S, bi c, bi last, bi k, v6] [] ι (bk0 K H)) := by
  have hM15 : ∀ s : Nat, s < 18 → 0 ≤ M s ∧ M s ≤ 15 := fun s hs => by have := hM s (by omega) (by omega); omega
  by_cases cz : c = 0
  · refine ⟨p, 13, 0, M, by omega, hp1, Or.inr (Or.inl rfl), fun e => by omega, ?_, ?_⟩
    · intro ι v1 v5 K H hR h24 h
      have hF : Fr fMk ι (up ι 0 0 3 13) := (Fr.refl _ _).u (by omega)
      have key : bC sc 3 [br 0 0, bi 13] ι (bk0 (fun ι1 => bC sc 32 [br 4 0, bi c] ι1 (bk0 (fun ι2 => bk0 K H (.inl none) ι2) (bq (bk0 K H)))) (bq (bk0 K H))) := by
        refine s_broken (fun _ => s_buildMarks (M := M) (fun s a b => ⟨by rw [up_k (by decide)]; exact h24 s a b, hM s a b⟩) fun ι' g1 _ _ => ?_) (fun e => absurd hR.2.2.1 e)
        have hF2 := hF.trans (g1.wide (P' := fMk) fun t i j q => by omega)
        exact h ι' (hR.fr hF2 (fun j => by omega) (by rw [g1 0 0 1 (by omega)]; simp (disch := omega) only [up_s, up_k, up_j, up_i]; exact hR.1) (by rw [g1 0 0 3 (by omega)]; simp (disch := omega) only [up_s, up_k, up_j, up_i])) (fun e => by omega) hF2
      exact e_CR_readMarks_15 (bif_i (fun _ => bif_t cz key) (fun q => bif_t (by omega) (bif_t cz key)))
    · intro ι v1 v6 K H hR h71 h hh
      have hF : Fr gMk ι (up ι 12 0 6 13) := (Fr.refl _ _).u (by omega)
      have key : ∀ v5, bW sc 183 95 [br 13 0, v1, bi S, bi c, bi last, v5, v6] [] ι (bk0 K H) := fun v5 => e_M_readMarks_95 (bif_t cz (m_fail (hh (by omega) _ (hR.fr hF (fun j => by omega) (by simp (disch := omega) only [up_s, up_k, up_j, up_i]; exact hR.1)) (by simp (disch := omega) only [up_s, up_k, up_j, up_i]) hF)))
      exact e_M_readMarks_19 (bif_i (fun _ => key _) (fun q => bif_t (by omega) (key _)))
  · by_cases c1 : c = 1
    · obtain ⟨l0, l1, l2⟩ := hc1 c1
      refine ⟨p, 0, last, M, by omega, hp1, Or.inl rfl, fun _ => ⟨hM15, Or.inl ⟨l0, by omega⟩⟩, ?_, ?_⟩
      · intro ι v1 v5 K H hR h24 h
        have key : bC sc 32 [br 4 0, bi c] ι (bk0 (fun ι2 => bk0 K H (.inl none) ι2) (bq (bk0 K H))) := by
          refine s_buildMarks (M := M) (fun s a b => ⟨h24 s a b, hM s a b⟩) fun ι' g1 _ g3 => ?_
          have hF2 := g1.wide (P' := fMk) fun t i j q => by omega
          exact h ι' (hR.fr hF2 (fun j => by omega) (by rw [g1 0 0 1 (by omega)]; exact hR.1) (by rw [g1 0 0 3 (by omega)]; exact hR.2.2.1)) (fun _ => g3 c1 last l0 l1 l2) hF2
        exact e_CR_readMarks_15 (bif_i (fun _ => bif_f cz (bif_t (by omega) key)) (fun q => bif_t (by omega) (bif_f cz (bif_t (by omega) key))))
      · intro ι v1 v6 K H hR h71 h hh
        have key : ∀ v5, bW sc 183 95 [br 13 0, v1, bi S, bi c, bi last, v5, v6] [] ι (bk0 K H) := fun v5 => by
          refine e_M_readMarks_95 (bif_f cz (bif_t (by omega) (bif_t c1 ⟨by omega, ?_⟩)))
          refine m_layCodes (L := M) (a := 18) (lone := last) (by omega) (by omega) (fun s hs => by rw [up_k (by decide)]; exact h71 s (by omega) (by omega)) (by simp (disch := omega) only [up_s, up_k, up_j, up_i]) fun ι' g1 g2 => ?_
          have hF : Fr gMk ι ι' := ((Fr.refl _ _).u (by omega)).trans (g2.wide fun t i j q => by omega)
          exact h rfl ι' (hR.fr hF (fun j => by omega) (by rw [g2 13 0 16 (by omega)]; simp (disch := omega) only [up_s, up_k, up_j, up_i]; exact hR.1)) g1 hF
        exact e_M_readMarks_19 (bif_i (fun _ => key _) (fun q => bif_t (by omega) (key _)))
    · by_cases cs : S = 32
      · refine ⟨p, 0, -1, M, by omega, hp1, Or.inl rfl, fun _ => ⟨hM15, Or.inr ⟨rfl, by rw [Fc_ks, hS]; omega⟩⟩, ?_, ?_⟩
        · intro ι v1 v5 K H hR h24 h
          have key : bC sc 32 [br 4 0, bi c] ι (bk0 (fun ι2 => bk0 K H (.inl none) ι2) (bq (bk0 K H))) := by
            refine s_buildMarks (M := M) (fun s a b => ⟨h24 s a b, hM s a b⟩) fun ι' g1 g2 _ => ?_
            have hF2 := g1.wide (P' := fMk) fun t i j q => by omega
            exact h ι' (hR.fr hF2 (fun j => by omega) (by rw [g1 0 0 1 (by omega)]; exact hR.1) (by rw [g1 0 0 3 (by omega)]; exact hR.2.2.1)) (fun _ => g2 c1) hF2
          exact e_CR_readMarks_15 (bif_i (fun _ => bif_f cz (bif_f (by omega) (bif_t cs key))) (fun q => bif_t (by omega) (bif_f cz (bif_f (by omega) (bif_t cs key)))))
        · intro ι v1 v6 K H hR h71 h hh
          have key : ∀ v5, bW sc 183 95 [br 13 0, v1, bi S, bi c, bi last, v5, v6] [] ι (bk0 K H) := fun v5 => by
            refine e_M_readMarks_95 (bif_f cz (bif_f (by omega) (bif_t cs (bif_f c1 ⟨by omega, ?_⟩))))
            refine m_layCodes (L := M) (a := 18) (lone := -1) (by omega) (by omega) (fun s hs => by rw [up_k (by decide)]; exact h71 s (by omega) (by omega)) (by simp (disch := omega) only [up_s, up_k, up_j, up_i]) fun ι' g1 g2 => ?_
            have hF : Fr gMk ι ι' := ((Fr.refl _ _).u (by omega)).trans (g2.wide fun t i j q => by omega)
            exact h rfl ι' (hR.fr hF (fun j => by omega) (by rw [g2 13 0 16 (by omega)]; simp (disch := omega) only [up_s, up_k, up_j, up_i]; exact hR.1)) g1 hF
          exact e_M_readMarks_19 (bif_i (fun _ => key _) (fun q => bif_t (by omega) (key _)))
      · refine ⟨p, 13, 0, M, by omega, hp1, Or.inr (Or.inl rfl), fun e => by omega, ?_, ?_⟩
        · intro ι v1 v5 K H hR h24 h
          have hF : Fr fMk ι (up ι 0 0 3 13) := (Fr.refl _ _).u (by omega)
          have key : bC sc 3 [br 0 0, bi 13] ι (bk0 (fun ι1 => bC sc 32 [br 4 0, bi c] ι1 (bk0 (fun ι2 => bk0 K H (.inl none) ι2) (bq (bk0 K H)))) (bq (bk0 K H))) := by
            refine s_broken (fun _ => s_buildMarks (M := M) (fun s a b => ⟨by rw [up_k (by decide)]; exact h24 s a b, hM s a b⟩) fun ι' g1 _ _ => ?_) (fun e => absurd hR.2.2.1 e)
            have hF2 := hF.trans (g1.wide (P' := fMk) fun t i j q => by omega)
            exact h ι' (hR.fr hF2 (fun j => by omega) (by rw [g1 0 0 1 (by omega)]; simp (disch := omega) only [up_s, up_k, up_j, up_i]; exact hR.1) (by rw [g1 0 0 3 (by omega)]; simp (disch := omega) only [up_s, up_k, up_j, up_i])) (fun e => by omega) hF2
          exact e_CR_readMarks_15 (bif_i (fun _ => bif_f cz (bif_f (by omega) (bif_f cs key))) (fun q => bif_t (by omega) (bif_f cz (bif_f (by omega) (bif_f cs key)))))
        · intro ι v1 v6 K H hR h71 h hh
          have hF : Fr gMk ι (up ι 12 0 6 13) := (Fr.refl _ _).u (by omega)
          have key : ∀ v5, bW sc 183 95 [br 13 0, v1, bi S, bi c, bi last, v5, v6] [] ι (bk0 K H) := fun v5 => e_M_readMarks_95 (bif_f cz (bif_f (by omega) (bif_f cs (m_fail (hh (by omega) _ (hR.fr hF (fun j => by omega) (by simp (disch := omega) only [up_s, up_k, up_j, up_i]; exact hR.1)) (by simp (disch := omega) only [up_s, up_k, up_j, up_i]) hF)))))
          exact e_M_readMarks_19 (bif_i (fun _ => key _) (fun q => bif_t (by omega) (key _)))
theorem j_marks15 (hw : wfβ β lim) : ∀ (m : Nat) (k p S c last : Int) (M : Int → Int), k = 18 - m → 0 ≤ k → 0 ≤ p → p ≤ lim → (∀ s : Int, 0 ≤ s → s < 18 → 0 ≤ M s ∧ M s ≤ 5) → (∀ j : Int, k ≤ j → j < 18 → M (mo j) = 0) → ks M 18 = 2048 * S → 0 ≤ S → S ≤ 32 → 0 ≤ c → c ≤ k → (c = 0 → ∀ s : Int, 0 ≤ s → s < 18 → M s = 0) → (c = 1 → 0 ≤ last ∧ last < 18 ∧ ∀ s, 0 ≤ s → s < 18 → (0 < M s ↔ s = last)) →
    ∃ (p' r lone : Int) (LM : Int → Int), p ≤ p' ∧ p' ≤ lim ∧ (r = 0 ∨ r = 13 ∨ r = 1 ∧ p' = lim) ∧ (r = 0 → CodeOK lone LM 18) ∧
    (∀ (ι : bm_S) (v1 v5 : bm_V) (K : bm_S → Prop) (H : Nat × Int → bm_S → Prop), cR ι β lim p 0 → (∀ s : Int, 0 ≤ s → s < 18 → ι 24 0 s = M s) → (∀ ι' : bm_S, cR ι' β lim p' r → (r = 0 → CodeC ι' 73 lone LM 18) → Fr fMk ι ι' → K ι') → bW sc 30 15 [br 4 0, v1, bi S, bi c, bi k, v5] [] ι (bk0 K H)) ∧
    (∀ (ι : bm_S) (v1 v6 : bm_V) (K : bm_S → Prop) (H : Nat × Int → bm_S → Prop), mR ι β lim p → (∀ s : Int, 0 ≤ s → s < 18 → ι 71 0 (17910 + s) = M s) → (r = 0 → ∀ ι' : bm_S, mR ι' β lim p' → CodeM ι' 17910 lone LM 18 → Fr gMk ι ι' → K ι') → (r ≠ 0 → ∀ ι' : bm_S, mR ι' β lim p' → ι' 12 0 6 = r → Fr gMk ι ι' → H (12, 0) ι') → bW sc 183 19 [br 13 0, v1, bi S, bi c, bi last, bi k, v6] [] ι (bk0 K H)) := by
  intro m
  induction m with
  | zero =>
    intro k p S c last M hk h0 hp0 hp1 hM hj hS hS0 hS1 hc0 hck hcz hc1
    exact j_marks_exit hw k p S c last M (Or.inl (by omega)) hp0 hp1 hM hS hc0 hc1
  | succ m ih =>
    intro k p S c last M hk h0 hp0 hp1 hM hj hS hS0 hS1 hc0 hck hcz hc1
    by_cases hx : 32 ≤ S
    · exact j_marks_exit hw k p S c last M (Or.inr hx) hp0 hp1 hM hS hc0 hc1
    · have hmo := mo_rg (k := k) (by omega)
      obtain ⟨p1, r1, n, i1, i2, i3, i4, i5, i6, i7⟩ := j_markLength (sc := sc) hw p hp0 hp1
      by_cases hr : r1 = 0
      · -- the mark's length n
        have hM' : ∀ s : Int, 0 ≤ s → s < 18 → 0 ≤ fs M (mo k) n s ∧ fs M (mo k) n s ≤ 5 := fun s a b => by
          have := hM s a b
          unfold fs; split <;> omega
        have hks : ks (fs M (mo k) n) 18 = 2048 * S + Kw n := by
          rw [ks_fs _ _ _ _ hmo.1, if_pos (by omega), hj k (by omega) (by omega), Kw_0, hS]; omega
        have hj' : ∀ j : Int, k + 1 ≤ j → j < 18 → fs M (mo k) n (mo j) = 0 := fun j a b => by
          rw [fs_n (mo_inj (by omega) (by omega) (by omega))]; exact hj j (by omega) b
        -- comp up to the sum
        have goC : ∀ (ι : bm_S) (v1 v5 : bm_V) (K : bm_S → Prop) (H : Nat × Int → bm_S → Prop) (S' c' : Int), cR ι β lim p 0 → (∀ s : Int, 0 ≤ s → s < 18 → ι 24 0 s = M s) → (n ≤ 0 ∧ S' = S ∧ c' = c ∨ 0 < n ∧ S' = S + 32 / bm_p2 n ∧ c' = c + 1) →
            (∀ ι' : bm_S, cR ι' β lim p1 0 → (∀ s : Int, 0 ≤ s → s < 18 → ι' 24 0 s = fs M (mo k) n s) → Fr fMk ι ι' → bW sc 30 73 [br 4 0, v1, bi S', bi c', bi k, bi n] [] ι' (bk0 K H)) → bW sc 30 15 [br 4 0, v1, bi S, bi c, bi k, v5] [] ι (bk0 K H) := by
          intro ι v1 v5 K H S' c' hR h24 hSc h
          refine e_CR_readMarks_15 (bif_f (by omega) (bif_f hx (s_fine (fun _ => bif_f (by omega) (i6 ι _ _ hR fun ι1 x a1 a2 a3 a4 a5 => ?_)) (fun e => absurd hR.2.2.1 e))))
          rw [a4 hr, X204]
          rw [hr] at a1
          have hF : Fr fMk ι (up ι1 24 0 (mo k) n) := (a5.wide fun t i j q => by omega).u (by omega)
          have hgo := h (up ι1 24 0 (mo k) n) (a1.fr ((Fr.refl fMk ι1).u (by omega)) (fun j => by omega) (by simp (disch := omega) only [up_s, up_k, up_j, up_i]; exact a1.1) (by simp (disch := omega) only [up_s, up_k, up_j, up_i]; exact a1.2.2.1)) (fun s s0 s1 => by
            rw [up_at]; unfold fs
            by_cases q : s = mo k
            · rw [if_pos q, if_pos q]
            · rw [if_neg q, if_neg q, a5 24 0 s (by omega)]; exact h24 s s0 s1) hF
          refine ⟨by omega, by omega, bif_i (fun q => ?_) (fun q => ?_)⟩
          · rcases hSc with ⟨z1, z2, z3⟩ | ⟨z1, z2, z3⟩
            · rw [z2, z3] at hgo; exact hgo
            · omega
          · have hp := p32 (n := n) (by omega)
            rcases hSc with ⟨z1, z2, z3⟩ | ⟨z1, z2, z3⟩
            · omega
            · rw [z2, z3] at hgo
              exact ⟨by omega, by omega, by omega, hgo⟩
        have goM : ∀ (ι : bm_S) (v1 v6 : bm_V) (K : bm_S → Prop) (H : Nat × Int → bm_S → Prop) (S' c' l' : Int), mR ι β lim p → (∀ s : Int, 0 ≤ s → s < 18 → ι 71 0 (17910 + s) = M s) → (n ≤ 0 ∧ S' = S ∧ c' = c ∧ l' = last ∨ 0 < n ∧ S' = S + 32 / bm_p2 n ∧ c' = c + 1 ∧ l' = mo k) →
            (∀ ι' : bm_S, mR ι' β lim p1 → (∀ s : Int, 0 ≤ s → s < 18 → ι' 71 0 (17910 + s) = fs M (mo k) n s) → Fr gMk ι ι' → bW sc 183 77 [br 13 0, v1, bi S', bi c', bi l', bi k, bi n] [] ι' (bk0 K H)) → bW sc 183 19 [br 13 0, v1, bi S, bi c, bi last, bi k, v6] [] ι (bk0 K H) := by
          intro ι v1 v6 K H S' c' l' hR h71 hSc h
          refine e_M_readMarks_19 (bif_f (by omega) (bif_f hx (i7 ι _ _ hR (fun _ ι1 a1 a2 => m_markAt (by omega) ⟨by omega, by omega, ?_⟩) (fun e => absurd hr e))))
          have hF : Fr gMk ι (up ι1 71 0 (17910 + mo k) n) := (a2.wide fun t i j q => by omega).u (by omega)
          have hgo := h (up ι1 71 0 (17910 + mo k) n) (a1.fr ((Fr.refl gMk ι1).u (by omega)) (fun j => by omega) (by simp (disch := omega) only [up_s, up_k, up_j, up_i]; exact a1.1)) (fun s s0 s1 => by
            rw [up_at]; unfold fs
            by_cases q : s = mo k
            · rw [if_pos (by omega), if_pos q]
            · rw [if_neg (by omega), if_neg q, a2 71 0 _ (by omega)]; exact h71 s s0 s1) hF
          refine bif_i (fun q => ?_) (fun q => ?_)
          · rcases hSc with ⟨z1, z2, z3, z4⟩ | ⟨z1, z2, z3, z4⟩
            · rw [z2, z3, z4] at hgo; exact hgo
            · omega
          · have hp := p32 (n := n) (by omega)
            rcases hSc with ⟨z1, z2, z3, z4⟩ | ⟨z1, z2, z3, z4⟩
            · omega
            · rw [z2, z3, z4] at hgo
              exact ⟨by omega, by omega, by omega, m_markAt (by omega) hgo⟩
        have next : ∀ S' c' l' : Int, (n ≤ 0 ∧ S' = S ∧ c' = c ∧ l' = last ∨ 0 < n ∧ S' = S + 32 / bm_p2 n ∧ c' = c + 1 ∧ l' = mo k) → ks (fs M (mo k) n) 18 = 2048 * S' → S' ≤ 32 → 0 ≤ S' → 0 ≤ c' → c' ≤ k + 1 → (c' = 0 → ∀ s : Int, 0 ≤ s → s < 18 → fs M (mo k) n s = 0) → (c' = 1 → 0 ≤ l' ∧ l' < 18 ∧ ∀ s, 0 ≤ s → s < 18 → (0 < fs M (mo k) n s ↔ s = l')) →
            ∃ (p' r lone : Int) (LM : Int → Int), p ≤ p' ∧ p' ≤ lim ∧ (r = 0 ∨ r = 13 ∨ r = 1 ∧ p' = lim) ∧ (r = 0 → CodeOK lone LM 18) ∧
    (∀ (ι : bm_S) (v1 v5 : bm_V) (K : bm_S → Prop) (H : Nat × Int → bm_S → Prop), cR ι β lim p 0 → (∀ s : Int, 0 ≤ s → s < 18 → ι 24 0 s = M s) → (∀ ι' : bm_S, cR ι' β lim p' r → (r = 0 → CodeC ι' 73 lone LM 18) → Fr fMk ι ι' → K ι') → bW sc 30 15 [br 4 0, v1, bi S, bi c, bi k, v5] [] ι (bk0 K H)) ∧
    (∀ (ι : bm_S) (v1 v6 : bm_V) (K : bm_S → Prop) (H : Nat × Int → bm_S → Prop), mR ι β lim p → (∀ s : Int, 0 ≤ s → s < 18 → ι 71 0 (17910 + s) = M s) → (r = 0 → ∀ ι' : bm_S, mR ι' β lim p' → CodeM ι' 17910 lone LM 18 → Fr gMk ι ι' → K ι') → (r ≠ 0 → ∀ ι' : bm_S, mR ι' β lim p' → ι' 12 0 6 = r → Fr gMk ι ι' → H (12, 0) ι') → bW sc 183 19 [br 13 0, v1, bi S, bi c, bi last, bi k, v6] [] ι (bk0 K H)) := by
          intro S' c' l' hSc hks' hS32 hS0' hc0' hck' hz' hl'
          obtain ⟨p', r, lone, LM, t1, t2, t3, t4, t5, t6⟩ := ih (k + 1) p1 S' c' l' (fs M (mo k) n) (by omega) (by omega) (by omega) i2 hM' hj' hks' hS0' hS32 hc0' hck' hz' hl'
          refine ⟨p', r, lone, LM, by omega, t2, t3, t4, ?_, ?_⟩
          · intro ι v1 v5 K H hR h24 h
            refine goC ι v1 v5 K H S' c' hR h24 (by omega) fun ι1 a1 a2 a3 => ?_
            refine e_CR_readMarks_73 (bif_t hS32 ⟨by omega, t5 ι1 v1 _ K H a1 a2 fun ι' g1 g2 g3 => h ι' g1 g2 (a3.trans g3)⟩)
          · intro ι v1 v6 K H hR h71 h hh
            refine goM ι v1 v6 K H S' c' l' hR h71 hSc fun ι1 a1 a2 a3 => ?_
            refine e_M_readMarks_77 (bif_t hS32 (e_M_readMarks_89 ⟨by omega, t6 ι1 v1 _ K H a1 a2 (fun e ι' g1 g2 g3 => h e ι' g1 g2 (a3.trans g3)) (fun e ι' g1 g2 g3 => hh e ι' g1 g2 (a3.trans g3))⟩))
        by_cases hn : n ≤ 0
        · have hn0 : n = 0 := by omega
          have hMn : ∀ s : Int, 0 ≤ s → s < 18 → fs M (mo k) n s = M s := fun s a b => by
            unfold fs
            by_cases q : s = mo k
            · rw [if_pos q, q, hj k (by omega) (by omega), hn0]
            · rw [if_neg q]
          refine next S c last (Or.inl ⟨hn, rfl, rfl, rfl⟩) (by rw [hks, hn0, Kw_0]; omega) hS1 hS0 hc0 (by omega) (fun e s a b => by rw [hMn s a b]; exact hcz e s a b) (fun e => ?_)
          obtain ⟨x1, x2, x3⟩ := hc1 e
          exact ⟨x1, x2, fun s a b => by rw [hMn s a b]; exact x3 s a b⟩
        · have hp := p32 (n := n) (by omega)
          by_cases hS32 : S + 32 / bm_p2 n ≤ 32
          · refine next (S + 32 / bm_p2 n) (c + 1) (mo k) (Or.inr ⟨by omega, rfl, rfl, rfl⟩) (by rw [hks]; omega) hS32 (by omega) (by omega) (by omega) (fun e => by omega) (fun e => ⟨hmo.1, hmo.2, fun s a b => ?_⟩)
            have hz := hcz (by omega) s a b
            unfold fs
            by_cases q : s = mo k
            · rw [if_pos q]; exact ⟨fun _ => q, fun _ => by omega⟩
            · rw [if_neg q, hz]; exact ⟨fun e => by omega, fun e => absurd e q⟩
          · -- too much
            refine ⟨p1, 13, 0, M, by omega, i2, Or.inr (Or.inl rfl), fun e => by omega, ?_, ?_⟩
            · intro ι v1 v5 K H hR h24 h
              refine goC ι v1 v5 K H (S + 32 / bm_p2 n) (c + 1) hR h24 (Or.inr ⟨by omega, rfl, rfl⟩) fun ι1 a1 a2 a3 => ?_
              refine e_CR_readMarks_73 (bif_f hS32 (s_broken (fun _ => ⟨by omega, s_marks_err (fun s s0 s1 => ?_) (by simp (disch := omega) only [up_s, up_k, up_j, up_i]; omega) fun ι' g1 => ?_⟩) (fun e => absurd a1.2.2.1 e)))
              · rw [up_k (by decide), a2 s s0 s1]; exact hM' s s0 s1
              · have hF : Fr fMk ι1 ι' := ((Fr.refl _ _).u (by omega)).trans (g1.wide fun t i j q => by omega)
                exact h ι' (a1.fr hF (fun j => by omega) (by rw [g1 0 0 1 (by omega)]; simp (disch := omega) only [up_s, up_k, up_j, up_i]; exact a1.1) (by rw [g1 0 0 3 (by omega)]; simp (disch := omega) only [up_s, up_k, up_j, up_i])) (fun e => by omega) (a3.trans hF)
            · intro ι v1 v6 K H hR h71 h hh
              refine goM ι v1 v6 K H (S + 32 / bm_p2 n) (c + 1) (mo k) hR h71 (Or.inr ⟨by omega, rfl, rfl, rfl⟩) fun ι1 a1 a2 a3 => ?_
              have hF : Fr gMk ι1 (up ι1 12 0 6 13) := (Fr.refl _ _).u (by omega)
              exact e_M_readMarks_77 (bif_f hS32 (m_fail (hh (by omega) _ (a1.fr hF (fun j => by omega) (by simp (disch := omega) only [up_s, up_k, up_j, up_i]; exact a1.1)) (by simp (disch := omega) only [up_s, up_k, up_j, up_i]) (a3.trans hF))))
      · -- the end of the tape
        have hr1 : r1 = 1 ∧ p1 = lim := by omega
        refine ⟨p1, 1, 0, M, by omega, i2, Or.inr (Or.inr ⟨rfl, hr1.2⟩), fun e => by omega, ?_, ?_⟩
        · intro ι v1 v5 K H hR h24 h
          refine e_CR_readMarks_15 (bif_f (by omega) (bif_f hx (s_fine (fun _ => bif_f (by omega) (i6 ι _ _ hR fun ι1 x a1 a2 a3 a4 a5 => ?_)) (fun e => absurd hR.2.2.1 e))))
          rw [X204]
          rw [hr1.1] at a1
          have hF : Fr fMk ι (up ι1 24 0 (mo k) x) := (a5.wide fun t i j q => by omega).u (by omega)
          have hb : up ι1 24 0 (mo k) x 0 0 3 ≠ 0 := by simp (disch := omega) only [up_s, up_k, up_j, up_i]; rw [a1.2.2.1]; omega
          have h24' : ∀ s : Int, 0 ≤ s → s < 18 → 0 ≤ up ι1 24 0 (mo k) x 24 0 s ∧ up ι1 24 0 (mo k) x 24 0 s ≤ 5 := fun s s0 s1 => by
            rw [up_at]
            by_cases q : s = mo k
            · rw [if_pos q]; omega
            · rw [if_neg q, a5 24 0 s (by omega), h24 s s0 s1]; exact hM s s0 s1
          have fin : ∀ (S' c' : Int) (v : bm_V), bW sc 30 73 [br 4 0, v1, bi S', bi c', bi k, v] [] (up ι1 24 0 (mo k) x) (bk0 K H) := by
            intro S' c' v
            have er : ∀ v5, bW sc 30 15 [br 4 0, v1, bi S', bi c', bi (k + 1), v5] [] (up ι1 24 0 (mo k) x) (bk0 K H) := fun v5 => by
              refine s_marks_err h24' hb fun ι' g1 => ?_
              have hF2 := hF.trans (g1.wide (P' := fMk) fun t i j q => by omega)
              exact h ι' (hR.fr hF2 (fun j => by omega) (by rw [g1 0 0 1 (by omega)]; simp (disch := omega) only [up_s, up_k, up_j, up_i]; exact a1.1) (by rw [g1 0 0 3 (by omega)]; simp (disch := omega) only [up_s, up_k, up_j, up_i]; exact a1.2.2.1)) (fun e => by omega) hF2
            exact e_CR_readMarks_73 (bif_i (fun _ => ⟨by omega, er _⟩) (fun _ => s_broken (fun e => absurd e hb) (fun _ => ⟨by omega, er _⟩)))
          refine ⟨by omega, by omega, bif_i (fun q => fin _ _ _) (fun q => ?_)⟩
          have hp := p32 (n := x) (by omega)
          exact ⟨by omega, by omega, by omega, fin _ _ _⟩
        · intro ι v1 v6 K H hR h71 h hh
          exact e_M_readMarks_19 (bif_f (by omega) (bif_f hx (i7 ι _ _ hR (fun e => absurd e hr) (fun _ ι1 a1 a2 a3 => hh (by omega) ι1 a1 a2 (a3.wide fun t i j q => by omega)))))
theorem j_readMarks (hw : wfβ β lim) (hh p : Int) (h0 : 0 ≤ hh ∧ hh ≤ 3) (hp0 : 0 ≤ p) (hp1 : p ≤ lim) :
    ∃ (p' r lone : Int) (LM : Int → Int), p ≤ p' ∧ p' ≤ lim ∧ (r = 0 ∨ r = 13 ∨ r = 1 ∧ p' = lim) ∧ (r = 0 → CodeOK lone LM 18) ∧
    (∀ (ι : bm_S) (K : bm_S → Prop) (H : Nat × Int → bm_S → Prop), cR ι β lim p 0 → (∀ ι' : bm_S, cR ι' β lim p' r → (r = 0 → CodeC ι' 73 lone LM 18) → Fr fMk ι ι' → K ι') → bC sc 30 [br 4 0, bi hh] ι (bk0 K H)) ∧
    (∀ (ι : bm_S) (K : bm_S → Prop) (H : Nat × Int → bm_S → Prop), mR ι β lim p → (r = 0 → ∀ ι' : bm_S, mR ι' β lim p' → CodeM ι' 17910 lone LM 18 → Fr gMk ι ι' → K ι') → (r ≠ 0 → ∀ ι' : bm_S, mR ι' β lim p' → ι' 12 0 6 = r → Fr gMk ι ι' → H (12, 0) ι') → bC sc 183 [br 13 0, bi hh] ι (bk0 K H)) := by
  obtain ⟨p', r, lone, LM, t1, t2, t3, t4, t5, t6⟩ := j_marks15 (sc := sc) hw (18 - hh).toNat hh p 0 0 0 (fun _ => 0) (by omega) (by omega) hp0 hp1 (fun s _ _ => by omega) (fun j _ _ => rfl) (by rw [ks_zero (fun _ _ => rfl)]; omega) (by omega) (by omega) (by omega) (by omega) (fun _ s _ _ => rfl) (fun e => by omega)
  refine ⟨p', r, lone, LM, t1, t2, t3, t4, ?_, ?_⟩
  · intro ι K H hR h
    refine e_CR_readMarks_0 (s_fill_24 fun ι1 a1 a2 => ?_)
    have hF : Fr fMk ι ι1 := a2.wide fun t i j q => by omega
    exact t5 ι1 _ _ K H (hR.fr hF (fun j => by omega) (by rw [a2 0 0 1 (by omega)]; exact hR.1) (by rw [a2 0 0 3 (by omega)]; exact hR.2.2.1)) (fun s s0 s1 => a1 s s0 s1) fun ι' g1 g2 g3 => h ι' g1 g2 (hF.trans g3)
  · intro ι K H hR h hq
    refine e_M_readMarks_0 (m_noLengths (a := 18) (by omega) (by omega) fun ι1 a1 a2 a3 => ?_)
    have hF : Fr gMk ι ι1 := a3.wide fun t i j q => by omega
    exact t6 ι1 _ _ K H (hR.fr hF (fun j => by omega) (by rw [a3 13 0 16 (by omega)]; exact hR.1)) (fun s s0 s1 => by
      have := a1 s.toNat (by omega)
      rw [show ((s.toNat : Nat) : Int) = s by omega] at this
      exact this) (fun e ι' g1 g2 g3 => h e ι' g1 g2 (hF.trans g3)) (fun e ι' g1 g2 g3 => hq e ι' g1 g2 (hF.trans g3))
end Marks2
