/-! the codes of a part -/
section Codes
variable {sc : bm_Sc} {β : Int → Int} {lim : Int}
theorem L22_v : ((List.range 72).all fun c => decide (bm_L 22 (c : Int) = if (c : Int) % 3 = 0 then 256 else if (c : Int) % 3 = 1 then 704 else 520)) = true := by decide +kernel
theorem L22 {c : Int} (h : 0 ≤ c ∧ c < 72) : bm_L 22 c = if c % 3 = 0 then 256 else if c % 3 = 1 then 704 else 520 := by
  have h1 := List.all_eq_true.mp L22_v c.toNat (List.mem_range.mpr (by omega))
  rw [show ((c.toNat : Nat) : Int) = c by omega] at h1
  exact of_decide_eq_true h1
abbrev fCo0 (cm k : Int) (t : Nat) (i j : Int) : Prop := fR t i j ∨ t = 23 ∨ t = 24 ∨ t = 25 ∨ t = 4 ∧ (j = 5 ∨ j = 6 ∨ j = 7) ∨ (i = 73 ∨ i % 3 = 0 ∧ 36 * cm + 3 * k + 0 ≤ i ∧ i < 36 * cm + 36) ∧ (t = 21 ∨ t = 22 ∨ t = 3 ∧ j = 2)
abbrev gCo0 (k n : Int) (t : Nat) (i j : Int) : Prop := gR t i j ∨ t = 75 ∨ (t = 71 ∨ t = 72) ∧ (120 + 256 * k ≤ j ∧ j < 120 + 256 * n ∨ 17910 ≤ j ∧ j < 17928) ∨ t = 73 ∧ (120 + 256 * k ≤ j ∧ j < 120 + 256 * n ∨ j = 17910)
theorem j_codes0 (hw : wfβ β lim) {n cm pf dr : Int} {a : Nat} (hcm : cm = 0 ∨ cm = 1) (hn : 1 ≤ n ∧ n ≤ 12) (hpf : 0 ≤ pf ∧ pf < 4) (hdr : 0 ≤ dr ∧ dr ≤ 120) (ha : (a : Int) = 256) : ∀ (m : Nat) (k p : Int), k = n - m → 0 ≤ k → 0 ≤ p → p ≤ lim →
    ∃ (p' r : Int) (LO : Int → Int) (LL : Int → Int → Int), p ≤ p' ∧ p' ≤ lim ∧ (r = 0 ∨ 0 < r ∧ r < 18) ∧ (r = 0 → ∀ t, k ≤ t → t < n → CodeOK (LO t) (LL t) a ∧ (0 ≤ LO t → ∀ s : Nat, s < a → LL t s = 0)) ∧
    (∀ (ι : bm_S) (Q : bm_O → bm_S → Prop), cR ι β lim p 0 → ι 8 0 6 = cm → ι 7 cm 8 = pf → ι 7 cm 9 = dr → (∀ (ι' : bm_S) (x : Int), cR ι' β lim p' r → (r = 0 → ∀ t, k ≤ t → t < n → CodeC ι' (36 * cm + 3 * t) (LO t) (LL t) a) → Fr (fCo0 cm k) ι ι' → bW sc 86 2 [br 8 0, bi (0 + 1), bi n, bi x] [] ι' Q) → bW sc 86 23 [br 8 0, bi 0, bi n, bi k] [] ι Q) ∧
    (∀ (ι : bm_S) (Q : bm_O → bm_S → Prop), mR ι β lim p → ι 13 0 29 = n → ι 13 0 22 = pf → ι 13 0 23 = dr → (r = 0 → ∀ ι' : bm_S, mR ι' β lim p' → (∀ t, k ≤ t → t < n → CodeM ι' (120 + 256 * t) (LO t) (LL t) a) → Fr (gCo0 k n) ι ι' → bW sc 198 188 [br 13 0, bi n] [] ι' Q) → (r ≠ 0 → ∀ ι' : bm_S, mR ι' β lim p' → ι' 12 0 6 = r → Fr (gCo0 k n) ι ι' → bq Q (12, 0) ι') → bW sc 198 188 [br 13 0, bi k] [] ι Q)
  | 0, k, p, hk, h0, hp0, hp1 => by
    have e : k = n := by omega
    subst e
    refine ⟨p, 0, fun _ => 0, fun _ _ => 0, by omega, hp1, Or.inl rfl, fun _ t x y => by omega, ?_, ?_⟩
    · intro ι Q hR h6 h8 h9 h
      exact e_O_readCodes_23 (bif_t (by omega) ⟨by omega, h ι _ hR (fun _ t x y => by omega) (Fr.refl _ _)⟩)
    · intro ι Q hR hN e22 e23 h _
      exact h rfl ι hR (fun t x y => by omega) (Fr.refl _ _)
  | m + 1, k, p, hk, h0, hp0, hp1 => by
    have hp2 := p2_3 hpf
    have hmin : min (max k 0) 11 = k := by omega
    have hL : bm_L 22 (36 * cm + 3 * k) = 256 := by
      rw [L22 (by omega)]
      rw [if_pos (by omega)]
    obtain ⟨p1, r1, lo, L, i1, i2, i3, i4, i5, i6⟩ := j_code (sc := sc) (a := a) hw (by omega) p hp0 hp1
    rw [ha] at i5 i6
    -- comp up to the code
    have goC : ∀ (ι : bm_S) (Q : bm_O → bm_S → Prop), cR ι β lim p 0 → ι 8 0 6 = cm → ι 7 cm 8 = pf → ι 7 cm 9 = dr → (∀ ι' : bm_S, cR ι' β lim p1 r1 → (r1 = 0 → CodeC ι' (36 * cm + 3 * k) lo L a) → Fr (fT (36 * cm + 3 * k)) ι ι' → bW sc 86 23 [br 8 0, bi 0, bi n, bi (k + 1)] [] ι' Q) → bW sc 86 23 [br 8 0, bi 0, bi n, bi k] [] ι Q := by
      intro ι Q hR h6 h8 h9 h
      refine e_O_readCodes_23 (bif_f (by omega) (s_fine (fun _ => bif_f (by omega) ⟨rfl, ?_⟩) (fun e => absurd hR.2.2.1 e)))
      rw [h6]
      refine e_L_code_0 ?_
      rw [hmin]
      refine bif_t rfl ⟨by omega, rfl, rfl, ?_⟩
      rw [h6]
      refine e_L_signsOf_0 ?_
      rw [h8, h9]
      refine bif_t rfl ?_
      refine i5 ι _ _ _ (by rw [hL]; omega) (by omega) hR fun ι1 a1 a2 a3 => ⟨by omega, h ι1 a1 a2 a3⟩
    have goM : ∀ (ι : bm_S) (Q : bm_O → bm_S → Prop), mR ι β lim p → ι 13 0 29 = n → ι 13 0 22 = pf → ι 13 0 23 = dr → (r1 = 0 → ∀ ι' : bm_S, mR ι' β lim p1 → CodeM ι' (120 + 256 * k) lo L a → Fr (gT (120 + 256 * k) (256)) ι ι' → bW sc 198 188 [br 13 0, bi (k + 1)] [] ι' Q) → (r1 ≠ 0 → ∀ ι' : bm_S, mR ι' β lim p1 → ι' 12 0 6 = r1 → Fr (gT (120 + 256 * k) (256)) ι ι' → bq Q (12, 0) ι') → bW sc 198 188 [br 13 0, bi k] [] ι Q := by
      intro ι Q hR hN e22 e23 h hh
      refine e_M_readHeads_188 (bif_f (by omega) ⟨by omega, by omega, ?_⟩)
      exact i6 ι (120 + 256 * k) _ _ (by omega) (by omega) hR (fun e ι1 a1 a2 a3 => ⟨by omega, h e ι1 a1 a2 a3⟩) hh
    by_cases hr : r1 = 0
    · obtain ⟨p2, r2, LO, LL, t1, t2, t3, t4, t5, t6⟩ := j_codes0 hw hcm hn hpf hdr ha m (k + 1) p1 (by omega) (by omega) (by omega) i2
      refine ⟨p2, r2, fun t => if t = k then lo else LO t, fun t => if t = k then L else LL t, by omega, t2, t3, ?_, ?_, ?_⟩
      · intro e t x y
        by_cases c : t = k
        · simp only [if_pos c]; exact i4 hr
        · simp only [if_neg c]; exact t4 e t (by omega) y
      · intro ι Q hR h6 h8 h9 h
        refine goC ι Q hR h6 h8 h9 fun ι1 a1 a2 a3 => ?_
        rw [hr] at a1
        refine t5 ι1 Q a1 (by rw [a3 8 0 6 (by omega)]; exact h6) (by rw [a3 7 cm 8 (by omega)]; exact h8) (by rw [a3 7 cm 9 (by omega)]; exact h9) fun ι2 x b1 b2 b3 => h ι2 x b1 (fun e t x y => ?_) ((a3.wide fun t i j q => by grind).trans (b3.wide fun t i j q => by grind))
        by_cases c : t = k
        · simp only [if_pos c]; rw [c]; exact (a2 hr).fr b3 (fun j => by omega)
        · simp only [if_neg c]; exact b2 e t (by omega) y
      · intro ι Q hR hN e22 e23 h hh
        refine goM ι Q hR hN e22 e23 (fun _ ι1 a1 a2 a3 => ?_) (fun e => absurd hr e)
        refine t6 ι1 Q a1 (by rw [a3 13 0 29 (by omega)]; exact hN) (by rw [a3 13 0 22 (by omega)]; exact e22) (by rw [a3 13 0 23 (by omega)]; exact e23) (fun e ι2 b1 b2 b3 => h e ι2 b1 (fun t x y => ?_) ((a3.wide fun t i j q => by grind).trans (b3.wide fun t i j q => by grind))) (fun e ι2 b1 b2 b3 => hh e ι2 b1 b2 ((a3.wide fun t i j q => by grind).trans (b3.wide fun t i j q => by grind)))
        by_cases c : t = k
        · simp only [if_pos c]; rw [c]; exact a2.fr b3 (fun s hs => by omega) (by omega)
        · simp only [if_neg c]; exact b2 t (by omega) y
    · refine ⟨p1, r1, fun _ => 0, fun _ _ => 0, i1, i2, i3, fun e => absurd e hr, ?_, ?_⟩
      · intro ι Q hR h6 h8 h9 h
        refine goC ι Q hR h6 h8 h9 fun ι1 a1 a2 a3 => ?_
        have hgo : bW sc 86 2 [br 8 0, bi (0 + 1), bi n, bi (k + 1)] [] ι1 Q := h ι1 _ a1 (fun e => absurd e hr) (a3.wide fun t i j q => by grind)
        refine e_O_readCodes_23 (bif_i (fun q => ⟨by omega, hgo⟩) (fun q => s_fine (fun e => absurd (a1.2.2.1.symm.trans e) hr) (fun _ => bif_t rfl ⟨by omega, hgo⟩)))
      · intro ι Q hR hN e22 e23 h hh
        exact goM ι Q hR hN e22 e23 (fun e => absurd e hr) (fun _ ι1 a1 a2 a3 => hh hr ι1 a1 a2 (a3.wide fun t i j q => by grind))
abbrev fCo1 (cm k : Int) (t : Nat) (i j : Int) : Prop := fR t i j ∨ t = 23 ∨ t = 24 ∨ t = 25 ∨ t = 4 ∧ (j = 5 ∨ j = 6 ∨ j = 7) ∨ (i = 73 ∨ i % 3 = 1 ∧ 36 * cm + 3 * k + 1 ≤ i ∧ i < 36 * cm + 36) ∧ (t = 21 ∨ t = 22 ∨ t = 3 ∧ j = 2)
abbrev gCo1 (k n : Int) (t : Nat) (i j : Int) : Prop := gR t i j ∨ t = 75 ∨ (t = 71 ∨ t = 72) ∧ (3192 + 704 * k ≤ j ∧ j < 3192 + 704 * n ∨ 17910 ≤ j ∧ j < 17928) ∨ t = 73 ∧ (3192 + 704 * k ≤ j ∧ j < 3192 + 704 * n ∨ j = 17910)
theorem j_codes1 (hw : wfβ β lim) {n cm pf dr : Int} {a : Nat} (hcm : cm = 0 ∨ cm = 1) (hn : 1 ≤ n ∧ n ≤ 12) (hpf : 0 ≤ pf ∧ pf < 4) (hdr : 0 ≤ dr ∧ dr ≤ 120) (ha : (a : Int) = 704) : ∀ (m : Nat) (k p : Int), k = n - m → 0 ≤ k → 0 ≤ p → p ≤ lim →
    ∃ (p' r : Int) (LO : Int → Int) (LL : Int → Int → Int), p ≤ p' ∧ p' ≤ lim ∧ (r = 0 ∨ 0 < r ∧ r < 18) ∧ (r = 0 → ∀ t, k ≤ t → t < n → CodeOK (LO t) (LL t) a ∧ (0 ≤ LO t → ∀ s : Nat, s < a → LL t s = 0)) ∧
    (∀ (ι : bm_S) (Q : bm_O → bm_S → Prop), cR ι β lim p 0 → ι 8 0 6 = cm → ι 7 cm 8 = pf → ι 7 cm 9 = dr → (∀ (ι' : bm_S) (x : Int), cR ι' β lim p' r → (r = 0 → ∀ t, k ≤ t → t < n → CodeC ι' (36 * cm + 3 * t + 1) (LO t) (LL t) a) → Fr (fCo1 cm k) ι ι' → bW sc 86 2 [br 8 0, bi (1 + 1), bi n, bi x] [] ι' Q) → bW sc 86 23 [br 8 0, bi 1, bi n, bi k] [] ι Q) ∧
    (∀ (ι : bm_S) (Q : bm_O → bm_S → Prop), mR ι β lim p → ι 78 0 1 = n → ι 13 0 22 = pf → ι 13 0 23 = dr → (r = 0 → ∀ ι' : bm_S, mR ι' β lim p' → (∀ t, k ≤ t → t < n → CodeM ι' (3192 + 704 * t) (LO t) (LL t) a) → Fr (gCo1 k n) ι ι' → bW sc 198 219 [br 13 0, bi n] [] ι' Q) → (r ≠ 0 → ∀ ι' : bm_S, mR ι' β lim p' → ι' 12 0 6 = r → Fr (gCo1 k n) ι ι' → bq Q (12, 0) ι') → bW sc 198 219 [br 13 0, bi k] [] ι Q)
  | 0, k, p, hk, h0, hp0, hp1 => by
    have e : k = n := by omega
    subst e
    refine ⟨p, 0, fun _ => 0, fun _ _ => 0, by omega, hp1, Or.inl rfl, fun _ t x y => by omega, ?_, ?_⟩
    · intro ι Q hR h6 h8 h9 h
      exact e_O_readCodes_23 (bif_t (by omega) ⟨by omega, h ι _ hR (fun _ t x y => by omega) (Fr.refl _ _)⟩)
    · intro ι Q hR hN e22 e23 h _
      exact h rfl ι hR (fun t x y => by omega) (Fr.refl _ _)
  | m + 1, k, p, hk, h0, hp0, hp1 => by
    have hp2 := p2_3 hpf
    have hmin : min (max k 0) 11 = k := by omega
    have hL : bm_L 22 (36 * cm + 3 * k + 1) = 704 := by
      rw [L22 (by omega)]
      rw [if_neg (by omega), if_pos (by omega)]
    obtain ⟨p1, r1, lo, L, i1, i2, i3, i4, i5, i6⟩ := j_code (sc := sc) (a := a) hw (by omega) p hp0 hp1
    rw [ha] at i5 i6
    -- comp up to the code
    have goC : ∀ (ι : bm_S) (Q : bm_O → bm_S → Prop), cR ι β lim p 0 → ι 8 0 6 = cm → ι 7 cm 8 = pf → ι 7 cm 9 = dr → (∀ ι' : bm_S, cR ι' β lim p1 r1 → (r1 = 0 → CodeC ι' (36 * cm + 3 * k + 1) lo L a) → Fr (fT (36 * cm + 3 * k + 1)) ι ι' → bW sc 86 23 [br 8 0, bi 1, bi n, bi (k + 1)] [] ι' Q) → bW sc 86 23 [br 8 0, bi 1, bi n, bi k] [] ι Q := by
      intro ι Q hR h6 h8 h9 h
      refine e_O_readCodes_23 (bif_f (by omega) (s_fine (fun _ => bif_f (by omega) ⟨rfl, ?_⟩) (fun e => absurd hR.2.2.1 e)))
      rw [h6]
      refine e_L_code_0 ?_
      rw [hmin]
      refine bif_f (by omega) (bif_t rfl ?_); refine ⟨by omega, rfl, rfl, ?_⟩
      rw [h6]
      refine e_L_signsOf_0 ?_
      rw [h8, h9]
      refine bif_f (by omega) (bif_t rfl ?_)
      refine i5 ι _ _ _ (by rw [hL]; omega) (by omega) hR fun ι1 a1 a2 a3 => ⟨by omega, h ι1 a1 a2 a3⟩
    have goM : ∀ (ι : bm_S) (Q : bm_O → bm_S → Prop), mR ι β lim p → ι 78 0 1 = n → ι 13 0 22 = pf → ι 13 0 23 = dr → (r1 = 0 → ∀ ι' : bm_S, mR ι' β lim p1 → CodeM ι' (3192 + 704 * k) lo L a → Fr (gT (3192 + 704 * k) (704)) ι ι' → bW sc 198 219 [br 13 0, bi (k + 1)] [] ι' Q) → (r1 ≠ 0 → ∀ ι' : bm_S, mR ι' β lim p1 → ι' 12 0 6 = r1 → Fr (gT (3192 + 704 * k) (704)) ι ι' → bq Q (12, 0) ι') → bW sc 198 219 [br 13 0, bi k] [] ι Q := by
      intro ι Q hR hN e22 e23 h hh
      refine e_M_readHeads_219 ⟨by omega, bif_f (by omega) ⟨by omega, by omega, ?_⟩⟩
      exact i6 ι (3192 + 704 * k) _ _ (by omega) (by omega) hR (fun e ι1 a1 a2 a3 => ⟨by omega, h e ι1 a1 a2 a3⟩) hh
    by_cases hr : r1 = 0
    · obtain ⟨p2, r2, LO, LL, t1, t2, t3, t4, t5, t6⟩ := j_codes1 hw hcm hn hpf hdr ha m (k + 1) p1 (by omega) (by omega) (by omega) i2
      refine ⟨p2, r2, fun t => if t = k then lo else LO t, fun t => if t = k then L else LL t, by omega, t2, t3, ?_, ?_, ?_⟩
      · intro e t x y
        by_cases c : t = k
        · simp only [if_pos c]; exact i4 hr
        · simp only [if_neg c]; exact t4 e t (by omega) y
      · intro ι Q hR h6 h8 h9 h
        refine goC ι Q hR h6 h8 h9 fun ι1 a1 a2 a3 => ?_
        rw [hr] at a1
        refine t5 ι1 Q a1 (by rw [a3 8 0 6 (by omega)]; exact h6) (by rw [a3 7 cm 8 (by omega)]; exact h8) (by rw [a3 7 cm 9 (by omega)]; exact h9) fun ι2 x b1 b2 b3 => h ι2 x b1 (fun e t x y => ?_) ((a3.wide fun t i j q => by grind).trans (b3.wide fun t i j q => by grind))
        by_cases c : t = k
        · simp only [if_pos c]; rw [c]; exact (a2 hr).fr b3 (fun j => by omega)
        · simp only [if_neg c]; exact b2 e t (by omega) y
      · intro ι Q hR hN e22 e23 h hh
        refine goM ι Q hR hN e22 e23 (fun _ ι1 a1 a2 a3 => ?_) (fun e => absurd hr e)
        refine t6 ι1 Q a1 (by rw [a3 78 0 1 (by omega)]; exact hN) (by rw [a3 13 0 22 (by omega)]; exact e22) (by rw [a3 13 0 23 (by omega)]; exact e23) (fun e ι2 b1 b2 b3 => h e ι2 b1 (fun t x y => ?_) ((a3.wide fun t i j q => by grind).trans (b3.wide fun t i j q => by grind))) (fun e ι2 b1 b2 b3 => hh e ι2 b1 b2 ((a3.wide fun t i j q => by grind).trans (b3.wide fun t i j q => by grind)))
        by_cases c : t = k
        · simp only [if_pos c]; rw [c]; exact a2.fr b3 (fun s hs => by omega) (by omega)
        · simp only [if_neg c]; exact b2 t (by omega) y
    · refine ⟨p1, r1, fun _ => 0, fun _ _ => 0, i1, i2, i3, fun e => absurd e hr, ?_, ?_⟩
      · intro ι Q hR h6 h8 h9 h
        refine goC ι Q hR h6 h8 h9 fun ι1 a1 a2 a3 => ?_
        have hgo : bW sc 86 2 [br 8 0, bi (1 + 1), bi n, bi (k + 1)] [] ι1 Q := h ι1 _ a1 (fun e => absurd e hr) (a3.wide fun t i j q => by grind)
        refine e_O_readCodes_23 (bif_i (fun q => ⟨by omega, hgo⟩) (fun q => s_fine (fun e => absurd (a1.2.2.1.symm.trans e) hr) (fun _ => bif_t rfl ⟨by omega, hgo⟩)))
      · intro ι Q hR hN e22 e23 h hh
        exact goM ι Q hR hN e22 e23 (fun e => absurd e hr) (fun _ ι1 a1 a2 a3 => hh hr ι1 a1 a2 (a3.wide fun t i j q => by grind))
abbrev fCo2 (cm k : Int) (t : Nat) (i j : Int) : Prop := fR t i j ∨ t = 23 ∨ t = 24 ∨ t = 25 ∨ t = 4 ∧ (j = 5 ∨ j = 6 ∨ j = 7) ∨ (i = 73 ∨ i % 3 = 2 ∧ 36 * cm + 3 * k + 2 ≤ i ∧ i < 36 * cm + 36) ∧ (t = 21 ∨ t = 22 ∨ t = 3 ∧ j = 2)
abbrev gCo2 (k n : Int) (t : Nat) (i j : Int) : Prop := gR t i j ∨ t = 75 ∨ (t = 71 ∨ t = 72) ∧ (11640 + 520 * k ≤ j ∧ j < 11640 + 520 * n ∨ 17910 ≤ j ∧ j < 17928) ∨ t = 73 ∧ (11640 + 520 * k ≤ j ∧ j < 11640 + 520 * n ∨ j = 17910)
theorem j_codes2 (hw : wfβ β lim) {n cm pf dr : Int} {a : Nat} (hcm : cm = 0 ∨ cm = 1) (hn : 1 ≤ n ∧ n ≤ 12) (hpf : 0 ≤ pf ∧ pf < 4) (hdr : 0 ≤ dr ∧ dr ≤ 120) (ha : (a : Int) = 16 + dr + 48 * bm_p2 pf) : ∀ (m : Nat) (k p : Int), k = n - m → 0 ≤ k → 0 ≤ p → p ≤ lim →
    ∃ (p' r : Int) (LO : Int → Int) (LL : Int → Int → Int), p ≤ p' ∧ p' ≤ lim ∧ (r = 0 ∨ 0 < r ∧ r < 18) ∧ (r = 0 → ∀ t, k ≤ t → t < n → CodeOK (LO t) (LL t) a ∧ (0 ≤ LO t → ∀ s : Nat, s < a → LL t s = 0)) ∧
    (∀ (ι : bm_S) (Q : bm_O → bm_S → Prop), cR ι β lim p 0 → ι 8 0 6 = cm → ι 7 cm 8 = pf → ι 7 cm 9 = dr → (∀ (ι' : bm_S) (x : Int), cR ι' β lim p' r → (r = 0 → ∀ t, k ≤ t → t < n → CodeC ι' (36 * cm + 3 * t + 2) (LO t) (LL t) a) → Fr (fCo2 cm k) ι ι' → bW sc 86 2 [br 8 0, bi (2 + 1), bi n, bi x] [] ι' Q) → bW sc 86 23 [br 8 0, bi 2, bi n, bi k] [] ι Q) ∧
    (∀ (ι : bm_S) (Q : bm_O → bm_S → Prop), mR ι β lim p → ι 13 0 30 = n → ι 13 0 22 = pf → ι 13 0 23 = dr → (r = 0 → ∀ ι' : bm_S, mR ι' β lim p' → (∀ t, k ≤ t → t < n → CodeM ι' (11640 + 520 * t) (LO t) (LL t) a) → Fr (gCo2 k n) ι ι' → bW sc 198 253 [br 13 0, bi n] [] ι' Q) → (r ≠ 0 → ∀ ι' : bm_S, mR ι' β lim p' → ι' 12 0 6 = r → Fr (gCo2 k n) ι ι' → bq Q (12, 0) ι') → bW sc 198 253 [br 13 0, bi k] [] ι Q)
  | 0, k, p, hk, h0, hp0, hp1 => by
    have e : k = n := by omega
    subst e
    refine ⟨p, 0, fun _ => 0, fun _ _ => 0, by omega, hp1, Or.inl rfl, fun _ t x y => by omega, ?_, ?_⟩
    · intro ι Q hR h6 h8 h9 h
      exact e_O_readCodes_23 (bif_t (by omega) ⟨by omega, h ι _ hR (fun _ t x y => by omega) (Fr.refl _ _)⟩)
    · intro ι Q hR hN e22 e23 h _
      exact h rfl ι hR (fun t x y => by omega) (Fr.refl _ _)
  | m + 1, k, p, hk, h0, hp0, hp1 => by
    have hp2 := p2_3 hpf
    have hmin : min (max k 0) 11 = k := by omega
    have hL : bm_L 22 (36 * cm + 3 * k + 2) = 520 := by
      rw [L22 (by omega)]
      rw [if_neg (by omega), if_neg (by omega)]
    obtain ⟨p1, r1, lo, L, i1, i2, i3, i4, i5, i6⟩ := j_code (sc := sc) (a := a) hw (by omega) p hp0 hp1
    rw [ha] at i5 i6
    -- comp up to the code
    have goC : ∀ (ι : bm_S) (Q : bm_O → bm_S → Prop), cR ι β lim p 0 → ι 8 0 6 = cm → ι 7 cm 8 = pf → ι 7 cm 9 = dr → (∀ ι' : bm_S, cR ι' β lim p1 r1 → (r1 = 0 → CodeC ι' (36 * cm + 3 * k + 2) lo L a) → Fr (fT (36 * cm + 3 * k + 2)) ι ι' → bW sc 86 23 [br 8 0, bi 2, bi n, bi (k + 1)] [] ι' Q) → bW sc 86 23 [br 8 0, bi 2, bi n, bi k] [] ι Q := by
      intro ι Q hR h6 h8 h9 h
      refine e_O_readCodes_23 (bif_f (by omega) (s_fine (fun _ => bif_f (by omega) ⟨rfl, ?_⟩) (fun e => absurd hR.2.2.1 e)))
      rw [h6]
      refine e_L_code_0 ?_
      rw [hmin]
      refine bif_f (by omega) (bif_f (by omega) ?_); refine ⟨by omega, rfl, rfl, ?_⟩
      rw [h6]
      refine e_L_signsOf_0 ?_
      rw [h8, h9]
      refine bif_f (by omega) (bif_f (by omega) ⟨by omega, ⟨by omega, by omega⟩, by omega, ?_⟩)
      refine i5 ι _ _ _ (by rw [hL]; omega) (by omega) hR fun ι1 a1 a2 a3 => ⟨by omega, h ι1 a1 a2 a3⟩
    have goM : ∀ (ι : bm_S) (Q : bm_O → bm_S → Prop), mR ι β lim p → ι 13 0 30 = n → ι 13 0 22 = pf → ι 13 0 23 = dr → (r1 = 0 → ∀ ι' : bm_S, mR ι' β lim p1 → CodeM ι' (11640 + 520 * k) lo L a → Fr (gT (11640 + 520 * k) (16 + dr + 48 * bm_p2 pf)) ι ι' → bW sc 198 253 [br 13 0, bi (k + 1)] [] ι' Q) → (r1 ≠ 0 → ∀ ι' : bm_S, mR ι' β lim p1 → ι' 12 0 6 = r1 → Fr (gT (11640 + 520 * k) (16 + dr + 48 * bm_p2 pf)) ι ι' → bq Q (12, 0) ι') → bW sc 198 253 [br 13 0, bi k] [] ι Q := by
      intro ι Q hR hN e22 e23 h hh
      refine e_M_readHeads_253 (bif_f (by omega) ⟨by omega, by omega, e_M_distanceSigns_0 ?_⟩)
      rw [e22, e23]
      refine ⟨by omega, ⟨by omega, by omega⟩, by omega, ?_⟩
      exact i6 ι (11640 + 520 * k) _ _ (by omega) (by omega) hR (fun e ι1 a1 a2 a3 => ⟨by omega, h e ι1 a1 a2 a3⟩) hh
    by_cases hr : r1 = 0
    · obtain ⟨p2, r2, LO, LL, t1, t2, t3, t4, t5, t6⟩ := j_codes2 hw hcm hn hpf hdr ha m (k + 1) p1 (by omega) (by omega) (by omega) i2
      refine ⟨p2, r2, fun t => if t = k then lo else LO t, fun t => if t = k then L else LL t, by omega, t2, t3, ?_, ?_, ?_⟩
      · intro e t x y
        by_cases c : t = k
        · simp only [if_pos c]; exact i4 hr
        · simp only [if_neg c]; exact t4 e t (by omega) y
      · intro ι Q hR h6 h8 h9 h
        refine goC ι Q hR h6 h8 h9 fun ι1 a1 a2 a3 => ?_
        rw [hr] at a1
        refine t5 ι1 Q a1 (by rw [a3 8 0 6 (by omega)]; exact h6) (by rw [a3 7 cm 8 (by omega)]; exact h8) (by rw [a3 7 cm 9 (by omega)]; exact h9) fun ι2 x b1 b2 b3 => h ι2 x b1 (fun e t x y => ?_) ((a3.wide fun t i j q => by grind).trans (b3.wide fun t i j q => by grind))
        by_cases c : t = k
        · simp only [if_pos c]; rw [c]; exact (a2 hr).fr b3 (fun j => by omega)
        · simp only [if_neg c]; exact b2 e t (by omega) y
      · intro ι Q hR hN e22 e23 h hh
        refine goM ι Q hR hN e22 e23 (fun _ ι1 a1 a2 a3 => ?_) (fun e => absurd hr e)
        refine t6 ι1 Q a1 (by rw [a3 13 0 30 (by omega)]; exact hN) (by rw [a3 13 0 22 (by omega)]; exact e22) (by rw [a3 13 0 23 (by omega)]; exact e23) (fun e ι2 b1 b2 b3 => h e ι2 b1 (fun t x y => ?_) ((a3.wide fun t i j q => by grind).trans (b3.wide fun t i j q => by grind))) (fun e ι2 b1 b2 b3 => hh e ι2 b1 b2 ((a3.wide fun t i j q => by grind).trans (b3.wide fun t i j q => by grind)))
        by_cases c : t = k
        · simp only [if_pos c]; rw [c]; exact a2.fr b3 (fun s hs => by omega) (by omega)
        · simp only [if_neg c]; exact b2 t (by omega) y
    · refine ⟨p1, r1, fun _ => 0, fun _ _ => 0, i1, i2, i3, fun e => absurd e hr, ?_, ?_⟩
      · intro ι Q hR h6 h8 h9 h
        refine goC ι Q hR h6 h8 h9 fun ι1 a1 a2 a3 => ?_
        have hgo : bW sc 86 2 [br 8 0, bi (2 + 1), bi n, bi (k + 1)] [] ι1 Q := h ι1 _ a1 (fun e => absurd e hr) (a3.wide fun t i j q => by grind)
        refine e_O_readCodes_23 (bif_i (fun q => ⟨by omega, hgo⟩) (fun q => s_fine (fun e => absurd (a1.2.2.1.symm.trans e) hr) (fun _ => bif_t rfl ⟨by omega, hgo⟩)))
      · intro ι Q hR hN e22 e23 h hh
        exact goM ι Q hR hN e22 e23 (fun e => absurd e hr) (fun _ ι1 a1 a2 a3 => hh hr ι1 a1 a2 (a3.wide fun t i j q => by grind))
end Codes
