/-! a code is read by both alike -/
section Tell
variable {sc : bm_Sc} {β : Int → Int} {lim : Int}
abbrev fT0 (c : Int) (t : Nat) (i j : Int) : Prop := t = 23 ∨ t = 24 ∨ t = 25 ∨ t = 4 ∧ (j = 5 ∨ j = 6 ∨ j = 7) ∨ (i = c ∨ i = 73) ∧ (t = 21 ∨ t = 22 ∨ t = 3 ∧ j = 2)
abbrev fT (c : Int) (t : Nat) (i j : Int) : Prop := fR t i j ∨ fT0 c t i j
abbrev gT (st a : Int) (t : Nat) (i j : Int) : Prop := gR t i j ∨ t = 75 ∨ (t = 71 ∨ t = 72) ∧ (st ≤ j ∧ j < st + a ∨ 17910 ≤ j ∧ j < 17928) ∨ t = 73 ∧ (j = st ∨ j = 17910)
theorem s_lens_err {K : bm_S → Prop} {H : Nat × Int → bm_S → Prop} {ι : bm_S} {a : Int} (hr : ι 0 0 3 ≠ 0) (h : ∀ ι' : bm_S, Fr (fun t i j => t = 4 ∧ (j = 5 ∨ j = 6 ∨ j = 7)) ι ι' → K ι') : bC sc 33 [br 4 0, bi a] ι (bk0 K H) := by
  refine e_CR_readLengths_0 (s_len_err (by simp (disch := omega) only [up_s, up_k, up_j, up_i]; exact hr) (h _ ((((Fr.refl _ _).u (by omega)).u (by omega)).u (by omega))))
theorem s_tell_err {K : bm_S → Prop} {H : Nat × Int → bm_S → Prop} {ι : bm_S} {c a : Int} (hr : ι 0 0 3 ≠ 0) (h : ∀ ι' : bm_S, Fr (fT0 c) ι ι' → K ι') : bC sc 26 [br 4 0, br 3 c, bi a] ι (bk0 K H) := by
  refine e_CR_tell_0 (s_number_bad hr (s_fill_23 fun ι1 a1 a2 => bif_f (by omega) (e_CR_readMarks_0 (s_fill_24 fun ι2 b1 b2 => ?_))))
  have hr1 : ι1 0 0 3 ≠ 0 := by rw [a2 0 0 3 (by omega)]; exact hr
  have hr2 : ι2 0 0 3 ≠ 0 := by rw [b2 0 0 3 (by omega)]; exact hr1
  refine s_marks_err (fun s s0 s1 => by rw [b1 s s0 s1]; omega) hr2 fun ι3 c1 => ?_
  have hr3 : ι3 0 0 3 ≠ 0 := by rw [c1 0 0 3 (by omega)]; exact hr2
  refine s_lens_err hr3 fun ι4 d1 => ?_
  have hr4 : ι4 0 0 3 ≠ 0 := by rw [d1 0 0 3 (by omega)]; exact hr3
  refine s_fine (fun e => absurd e hr4) (fun _ => bif_t rfl (h ι4 ?_))
  exact (((a2.wide fun t i j q => by omega).trans (b2.wide fun t i j q => by omega)).trans (c1.wide fun t i j q => by omega)).trans (d1.wide fun t i j q => by omega)
theorem j_code {a : Nat} (hw : wfβ β lim) (ha : 2 ≤ a ∧ a ≤ 704) (p : Int) (hp0 : 0 ≤ p) (hp1 : p ≤ lim) :
    ∃ (p' r lone : Int) (L : Int → Int), p ≤ p' ∧ p' ≤ lim ∧ (r = 0 ∨ 0 < r ∧ r < 18) ∧ (r = 0 → CodeOK lone L a ∧ (0 ≤ lone → ∀ s : Nat, s < a → L s = 0)) ∧
    (∀ (ι : bm_S) (c : Int) (K : bm_S → Prop) (H : Nat × Int → bm_S → Prop), (a : Int) ≤ bm_L 22 c ∧ bm_L 22 c ≤ 704 → c ≠ 73 → cR ι β lim p 0 → (∀ ι' : bm_S, cR ι' β lim p' r → (r = 0 → CodeC ι' c lone L a) → Fr (fT c) ι ι' → K ι') → bC sc 26 [br 4 0, br 3 c, bi (a : Int)] ι (bk0 K H)) ∧
    (∀ (ι : bm_S) (st : Int) (K : bm_S → Prop) (H : Nat × Int → bm_S → Prop), 0 ≤ st → st + a ≤ 17910 → mR ι β lim p → (r = 0 → ∀ ι' : bm_S, mR ι' β lim p' → CodeM ι' st lone L a → Fr (gT st a) ι ι' → K ι') → (r ≠ 0 → ∀ ι' : bm_S, mR ι' β lim p' → ι' 12 0 6 = r → Fr (gT st a) ι ι' → H (12, 0) ι') → bC sc 178 [br 13 0, bi st, bi (a : Int)] ι (bk0 K H)) := by
  have w1 := hw.1
  by_cases hp : p + 2 ≤ lim
  · have hv := nm2 (p := p) w1
    by_cases h1 : nm β p (Int.toNat 2) = 1
    · -- shortly
      obtain ⟨p', r, lone, L, i1, i2, i3, i4, i5, i6⟩ := j_few (sc := sc) (a := a) hw ha (p + 2) (by omega) hp
      refine ⟨p', r, lone, L, by omega, i2, by omega, i4, ?_, ?_⟩
      · intro ι c K H hcap hc hR h
        refine e_CR_tell_0 (s_number hw (by omega) (by omega) hR (s_fill_23 fun ι1 a1 a2 => bif_t h1 ?_))
        have hF : Fr (fT c) ι ι1 := ((Fr.refl _ _).u (by omega)).trans (a2.wide fun t i j q => by omega)
        exact i5 ι1 c _ _ hcap ((hR.to).fr a2 (fun j => by omega) (by rw [a2 0 0 1 (by omega)]; simp (disch := omega) only [up_s, up_k, up_j, up_i]) (by rw [a2 0 0 3 (by omega)]; simp (disch := omega) only [up_s, up_k, up_j, up_i]; exact hR.2.2.1)) (fun j j0 j1 => a1 j j0 j1) fun ι' g1 g2 g3 => h ι' g1 g2 (hF.trans (g3.wide fun t i j q => by omega))
      · intro ι st K H hst hst2 hR h hh
        refine e_M_readCode_0 (m_noLengths (by omega) (by omega) fun ι1 a1 a2 a3 => ?_)
        have hR1 : mR ι1 β lim p := hR.fr a3 (fun j => by omega) (by rw [a3 13 0 16 (by omega)]; exact hR.1)
        refine m_number hw (by omega) (by omega) hR1 (bif_t h1 ?_)
        have hF : Fr (gT st a) ι (up ι1 13 0 16 (p + 2)) := (a3.wide fun t i j q => by omega).u (by omega)
        refine i6 _ st _ _ hst (by omega) hR1.to (fun s hs => by rw [up_k (by decide)]; exact a1 s hs) (fun e ι2 b1 b2 b3 b4 => ?_) (fun e ι2 b1 b2 b3 => hh e ι2 b1 b2 (hF.trans (b3.wide fun t i j q => by omega)))
        refine m_layCodes (L := L) (lone := lone) (by omega) (by omega) b2 b3 fun ι3 c1 c2 => ?_
        exact h e ι3 (b1.fr c2 (fun j => by omega) (by rw [c2 13 0 16 (by omega)]; exact b1.1)) c1 ((hF.trans (b4.wide fun t i j q => by omega)).trans (c2.wide fun t i j q => by omega))
    · -- at length
      obtain ⟨p1, r1, lm, LM, m1, m2, m3, m4, m5, m6⟩ := j_readMarks (sc := sc) hw (nm β p (Int.toNat 2)) (p + 2) hv (by omega) hp
      -- up to the marks
      have goC : ∀ (ι : bm_S) (c : Int) (K : bm_S → Prop) (H : Nat × Int → bm_S → Prop), c ≠ 73 → cR ι β lim p 0 → (∀ ι' : bm_S, cR ι' β lim p1 r1 → (r1 = 0 → CodeC ι' 73 lm LM 18) → (∀ j : Int, 0 ≤ j → j < 704 → ι' 23 0 j = 0) → Fr (fT c) ι ι' → bC sc 33 [br 4 0, bi (a : Int)] ι' (bk0 (fun ι4 => bC sc 2 [br 0 0] ι4 (bk1 (fun r5 ι5 => if r5 = (0 : Int) then bk0 K H (.inl none) ι5 else bC sc 23 [br 3 c, br 23 0, bi (a : Int)] ι5 (bk0 (fun ι6 => bk0 K H (.inl none) ι6) (bq (bk0 K H)))) (bq (bk0 K H)))) (bq (bk0 K H)))) → bC sc 26 [br 4 0, br 3 c, bi (a : Int)] ι (bk0 K H) := by
        intro ι c K H hc hR h
        refine e_CR_tell_0 (s_number hw (by omega) (by omega) hR (s_fill_23 fun ι1 a1 a2 => bif_f h1 ?_))
        have hF : Fr (fT c) ι ι1 := ((Fr.refl _ _).u (by omega)).trans (a2.wide fun t i j q => by omega)
        exact m5 ι1 _ _ ((hR.to).fr a2 (fun j => by omega) (by rw [a2 0 0 1 (by omega)]; simp (disch := omega) only [up_s, up_k, up_j, up_i]) (by rw [a2 0 0 3 (by omega)]; simp (disch := omega) only [up_s, up_k, up_j, up_i]; exact hR.2.2.1)) fun ι2 b1 b2 b3 => h ι2 b1 b2 (fun j j0 j1 => by rw [b3 23 0 j (by omega)]; exact a1 j j0 j1) (hF.trans (b3.wide fun t i j q => by omega))
      have goM : ∀ (ι : bm_S) (st : Int) (K : bm_S → Prop) (H : Nat × Int → bm_S → Prop), 0 ≤ st → st + a ≤ 17910 → mR ι β lim p → (r1 = 0 → ∀ ι' : bm_S, mR ι' β lim p1 → CodeM ι' 17910 lm LM 18 → (∀ s : Nat, s < a → ι' 71 0 (st + s) = 0) → ι' 73 0 st = -1 → Fr (gT st a) ι ι' → bC sc 184 [br 13 0, bi st, bi (a : Int)] ι' (bk0 (fun ι4 => bC sc 171 [br 13 0, bi st, bi (a : Int)] ι4 (bk0 (fun ι5 => bk0 K H (.inl none) ι5) (bq (bk0 K H)))) (bq (bk0 K H)))) → (r1 ≠ 0 → ∀ ι' : bm_S, mR ι' β lim p1 → ι' 12 0 6 = r1 → Fr (gT st a) ι ι' → H (12, 0) ι') → bC sc 178 [br 13 0, bi st, bi (a : Int)] ι (bk0 K H) := by
        intro ι st K H hst hst2 hR h hh
        refine e_M_readCode_0 (m_noLengths (by omega) (by omega) fun ι1 a1 a2 a3 => ?_)
        have hR1 : mR ι1 β lim p := hR.fr a3 (fun j => by omega) (by rw [a3 13 0 16 (by omega)]; exact hR.1)
        refine m_number hw (by omega) (by omega) hR1 (bif_f h1 ?_)
        have hF : Fr (gT st a) ι (up ι1 13 0 16 (p + 2)) := (a3.wide fun t i j q => by omega).u (by omega)
        refine m6 _ _ _ hR1.to (fun e ι2 b1 b2 b3 => ?_) (fun e ι2 b1 b2 b3 => hh e ι2 b1 b2 (hF.trans (b3.wide fun t i j q => by omega)))
        exact h e ι2 b1 b2 (fun s hs => by rw [b3 71 0 _ (by omega), up_k (by decide)]; exact a1 s hs) (by rw [b3 73 0 _ (by omega), up_k (by decide)]; exact a2) (hF.trans (b3.wide fun t i j q => by omega))
      by_cases hr1 : r1 = 0
      · have hO := m4 hr1
        obtain ⟨p', r, L', t1, t2, t3, t4, t5, t6⟩ := j_len (sc := sc) (a := a) ha hw hO a p1 0 0 0 8 0 0 0 0 (fun _ => 0) (by omega) ⟨by omega, by omega, by omega, by omega, by rw [ks_zero (fun _ _ => rfl)]; omega, fun s _ => ⟨show (0 : Int) ≤ 0 by omega, show (0 : Int) ≤ 15 by omega⟩, fun s _ _ => rfl, by omega, Or.inl ⟨rfl, by omega, by omega⟩⟩
        refine ⟨p', r, -1, L', by omega, t2, by omega, fun e => ⟨⟨(t4 e).1, Or.inr ⟨rfl, by rw [Fc_ks]; exact (t4 e).2⟩⟩, fun q => by omega⟩, ?_, ?_⟩
        · intro ι c K H hcap hc hR h
          refine goC ι c K H hc hR fun ι1 a1 a2 a3 a4 => ?_
          rw [hr1] at a1
          refine e_CR_readLengths_0 ?_
          have hF0 : Fr fL ι1 (up (up (up ι1 4 0 5 0) 4 0 6 0) 4 0 7 8) := (((Fr.refl _ _).u (by omega)).u (by omega)).u (by omega)
          refine t5 _ _ _ _ _ _ (a1.fr hF0 (fun j => by omega) (by simp (disch := omega) only [up_s, up_k, up_j, up_i]; exact a1.1) (by simp (disch := omega) only [up_s, up_k, up_j, up_i]; exact a1.2.2.1)) ((a2 hr1).fr hF0 (fun j => by omega)) (by simp (disch := omega) only [up_s, up_k, up_j, up_i]) (by simp (disch := omega) only [up_s, up_k, up_j, up_i]) (by simp (disch := omega) only [up_s, up_k, up_j, up_i]) (fun s hs => by simp (disch := omega) only [up_s, up_k, up_j, up_i]; exact a3 s (by omega) (by omega)) fun ι2 b1 b2 b3 => ?_
          have hF1 := (a4.trans (hF0.wide fun t i j q => by omega)).trans (b3.wide (P' := fT c) fun t i j q => by omega)
          refine s_fine (fun q => bif_f (by omega) ?_) (fun q => bif_t rfl ?_)
          · have hr0 : r = 0 := by rw [b1.2.2.1] at q; exact q
            refine s_build_23 (L := L') (by omega) hcap (fun s hs => ⟨b2 hr0 s hs, (t4 hr0).1 s hs⟩) fun ι3 c1 c2 => ?_
            exact h ι3 (b1.fr c2 (fun j => by omega) (by rw [c2 0 0 1 (by omega)]; exact b1.1) (by rw [c2 0 0 3 (by omega)]; exact b1.2.2.1)) (fun _ => c1) (hF1.trans (c2.wide fun t i j q => by omega))
          · have hr0 : r ≠ 0 := by rw [b1.2.2.1] at q; exact q
            exact h ι2 b1 (fun e => absurd e hr0) hF1
        · intro ι st K H hst hst2 hR h hh
          refine goM ι st K H hst hst2 hR (fun _ ι1 a1 a2 a3 a4 a5 => ?_) (fun e => absurd hr1 e)
          refine e_M_readLengths_0 (t6 ι1 st _ _ _ _ _ _ hst hst2 a1 a2 a3 (fun e ι2 b1 b2 b3 => ?_) (fun e ι2 b1 b2 b3 => hh e ι2 b1 b2 (a5.trans (b3.wide fun t i j q => by omega))))
          refine m_layCodes (L := L') (lone := -1) (by omega) (by omega) b2 (by rw [b3 73 0 st (by omega)]; exact a4) fun ι3 c1 c2 => ?_
          exact h e ι3 (b1.fr c2 (fun j => by omega) (by rw [c2 13 0 16 (by omega)]; exact b1.1)) c1 ((a5.trans (b3.wide fun t i j q => by omega)).trans (c2.wide fun t i j q => by omega))
      · refine ⟨p1, r1, 0, fun _ => 0, by omega, m2, by omega, fun e => absurd e hr1, ?_, ?_⟩
        · intro ι c K H hcap hc hR h
          refine goC ι c K H hc hR fun ι1 a1 a2 a3 a4 => ?_
          have hb : ι1 0 0 3 ≠ 0 := by rw [a1.2.2.1]; exact hr1
          refine s_lens_err hb fun ι2 b1 => ?_
          have hb2 : ι2 0 0 3 ≠ 0 := by rw [b1 0 0 3 (by omega)]; exact hb
          refine s_fine (fun e => absurd e hb2) (fun _ => bif_t rfl ?_)
          exact h ι2 (a1.fr b1 (fun j => by omega) (by rw [b1 0 0 1 (by omega)]; exact a1.1) (by rw [b1 0 0 3 (by omega)]; exact a1.2.2.1)) (fun e => absurd e hr1) (a4.trans (b1.wide fun t i j q => by omega))
        · intro ι st K H hst hst2 hR h hh
          exact goM ι st K H hst hst2 hR (fun e => absurd e hr1) hh
  · refine ⟨lim, 1, 0, fun _ => 0, by omega, by omega, by omega, fun e => by omega, ?_, ?_⟩
    · intro ι c K H hcap hc hR h
      refine e_CR_tell_0 (s_number_end hw (by omega) hR (s_fill_23 fun ι1 a1 a2 => bif_f (by omega) (e_CR_readMarks_0 (s_fill_24 fun ι2 b1 b2 => ?_))))
      have hF0 : Fr (fT c) ι (up (up ι 0 0 1 lim) 0 0 3 1) := ((Fr.refl _ _).u (by omega)).u (by omega)
      have hr1 : ι1 0 0 3 = 1 := by rw [a2 0 0 3 (by omega)]; simp (disch := omega) only [up_s, up_k, up_j, up_i]
      have hr2 : ι2 0 0 3 = 1 := by rw [b2 0 0 3 (by omega)]; exact hr1
      refine s_marks_err (fun s s0 s1 => by rw [b1 s s0 s1]; omega) (by rw [hr2]; omega) fun ι3 c1 => ?_
      have hr3 : ι3 0 0 3 = 1 := by rw [c1 0 0 3 (by omega)]; exact hr2
      refine s_lens_err (by rw [hr3]; omega) fun ι4 d1 => ?_
      have hr4 : ι4 0 0 3 = 1 := by rw [d1 0 0 3 (by omega)]; exact hr3
      have hF := (((hF0.trans (a2.wide fun t i j q => by omega)).trans (b2.wide fun t i j q => by omega)).trans (c1.wide fun t i j q => by omega)).trans (d1.wide (P' := fT c) fun t i j q => by omega)
      refine s_fine (fun e => by omega) (fun _ => bif_t rfl (h ι4 (hR.fr hF (fun j => by omega) ?_ hr4) (fun e => by omega) hF))
      rw [d1 0 0 1 (by omega), c1 0 0 1 (by omega), b2 0 0 1 (by omega), a2 0 0 1 (by omega)]
      simp (disch := omega) only [up_s, up_k, up_j, up_i]
    · intro ι st K H hst hst2 hR h hh
      refine e_M_readCode_0 (m_noLengths (by omega) (by omega) fun ι1 a1 a2 a3 => ?_)
      have hR1 : mR ι1 β lim p := hR.fr a3 (fun j => by omega) (by rw [a3 13 0 16 (by omega)]; exact hR.1)
      have hF : Fr (gT st a) ι (up (up ι1 13 0 16 lim) 12 0 6 1) := ((a3.wide fun t i j q => by omega).u (by omega)).u (by omega)
      exact m_number_end hw (by omega) (by omega) hR1 (hh (by omega) _ (hR.fr hF (fun j => by omega) (by simp (disch := omega) only [up_s, up_k, up_j, up_i])) (by simp (disch := omega) only [up_s, up_k, up_j, up_i]) hF)
end Tell
