/-! what is told of a part; the kinds of a sort -/
def nt (PA : Int → Int) (pc w v : Int) : Int → Int := if 1 ≤ pc ∧ pc ≤ 60 then fs PA (12 * (pc - 1) + w) v else PA
section Kinds
variable {sc : bm_Sc} {β : Int → Int} {lim : Int}
theorem s_note {ι : bm_S} {K : bm_S → Prop} {H : Nat × Int → bm_S → Prop} {w v pc : Int} (hw : 0 ≤ w ∧ w < 12) (hp : ι 8 0 3 = pc) (hp0 : 0 ≤ pc) (h : ∀ ι' : bm_S, (∀ j, ι' 52 0 j = nt (ι 52 0) pc w v j) → Fr (fun t i j => t = 52) ι ι' → K ι') : bC sc 78 [br 8 0, bi w, bi v] ι (bk0 K H) := by
  unfold nt at h
  refine e_O_note_0 ?_
  rw [hp]
  refine bif_i (fun q => ?_) (fun q => bif_i (fun q2 => ?_) (fun q2 => ⟨by omega, by omega, by omega, by omega, ?_⟩))
  · rw [if_neg (by omega)] at h; exact h ι (fun _ => rfl) (Fr.refl _ _)
  · rw [if_neg (by omega)] at h; exact h ι (fun _ => rfl) (Fr.refl _ _)
  · rw [if_pos (by omega)] at h
    refine h _ (fun j => ?_) ((Fr.refl _ _).u (by omega))
    rw [up_at, show (pc - 1) * 12 + w = 12 * (pc - 1) + w by omega]; rfl
theorem m_tell {ι : bm_S} {K : bm_S → Prop} {H : Nat × Int → bm_S → Prop} {w v pc : Int} (hw : 0 ≤ w ∧ w < 12) (hp : ι 13 0 19 = pc) (hp0 : 0 ≤ pc) (h : ∀ ι' : bm_S, (∀ j, ι' 76 0 j = nt (ι 76 0) pc w v j) → Fr (fun t i j => t = 76) ι ι' → K ι') : bC sc 185 [br 13 0, bi w, bi v] ι (bk0 K H) := by
  unfold nt at h
  refine e_M_tell_0 ?_
  rw [hp]
  refine bif_i (fun q => ?_) (fun q => ⟨by omega, by omega, by omega, by omega, ?_⟩)
  · rw [if_neg (by omega)] at h; exact h ι (fun _ => rfl) (Fr.refl _ _)
  · rw [if_pos (by omega)] at h
    exact h _ (fun j => by rw [up_at]; rfl) ((Fr.refl _ _).u (by omega))
theorem nt_ext {f g : Int → Int} {pc w v : Int} (hp : 0 ≤ pc) (hw : 0 ≤ w ∧ w < 12) (h : ∀ j, 0 ≤ j → j < 720 → f j = g j) : ∀ j, 0 ≤ j → j < 720 → nt f pc w v j = nt g pc w v j := by
  intro j a b
  unfold nt
  split
  · unfold fs; split
    · rfl
    · exact h j a b
  · exact h j a b
/-- a place that bears it already -/
theorem nt_same {f : Int → Int} {pc w v : Int} (h : 1 ≤ pc → pc ≤ 60 → f (12 * (pc - 1) + w) = v) : ∀ j, nt f pc w v j = f j := by
  intro j
  unfold nt
  split
  · rename_i q
    unfold fs; split
    · rename_i e; rw [e, h q.1 q.2]
    · rfl
  · rfl
abbrev fKi (q cm : Int) (t : Nat) (i j : Int) : Prop := fR t i j ∨ t = 52 ∨ t = 43 ∧ i = cm ∧ j = q ∨ t = 1 ∧ i = q ∨ fT0 (74 + 2 * q) t i j ∨ fT0 (75 + 2 * q) t i j
abbrev gKi (q : Int) (t : Nat) (i j : Int) : Prop := gR t i j ∨ t = 76 ∨ (t = 78 ∨ t = 79 ∨ t = 80 ∨ t = 81) ∧ j = q ∨ gT (14 * q) 14 t i j ∨ gT (42 + 26 * q) 26 t i j
/-- the parts' row -/
def PaC (ι : bm_S) (PA : Int → Int) : Prop := ∀ j, 0 ≤ j → j < 720 → ι 52 0 j = PA j
def PaM (ι : bm_S) (PA : Int → Int) : Prop := ∀ j, 0 ≤ j → j < 720 → ι 76 0 j = PA j
theorem PaC.fr {ι ι' : bm_S} {PA : Int → Int} {P : Nat → Int → Int → Prop} (h : PaC ι PA) (hF : Fr P ι ι') (hP : ∀ j, ¬ P 52 0 j) : PaC ι' PA := fun j a b => by rw [hF _ _ _ (hP j)]; exact h j a b
theorem PaM.fr {ι ι' : bm_S} {PA : Int → Int} {P : Nat → Int → Int → Prop} (h : PaM ι PA) (hF : Fr P ι ι') (hP : ∀ j, ¬ P 76 0 j) : PaM ι' PA := fun j a b => by rw [hF _ _ _ (hP j)]; exact h j a b
theorem j_readKinds (hw : wfβ β lim) (q : Int) (hq : 0 ≤ q ∧ q < 3) (pc cm : Int) (hpc : 0 ≤ pc) (PA : Int → Int) (p : Int) (h0 : 0 ≤ p) (h1 : p ≤ lim) :
    ∃ (p' r kd lf lk lc : Int) (Lk Lc PA' : Int → Int), p ≤ p' ∧ p' ≤ lim ∧ (r = 0 ∨ 0 < r ∧ r < 18) ∧ (r = 0 → KW kd 0 1 lf ∧ KO kd lk Lk lc Lc ∧ PA' = nt PA pc (2 + q) kd) ∧ (PA' = PA ∨ ∃ v, PA' = nt PA pc (2 + q) v) ∧
    (∀ (ι : bm_S) (K : bm_S → Prop) (H : Nat × Int → bm_S → Prop), cR ι β lim p 0 → ι 8 0 3 = pc → ι 8 0 6 = cm → PaC ι PA → (∀ ι' : bm_S, cR ι' β lim p' r → PaC ι' PA' → (r = 0 → ι' 43 cm q = kd ∧ KC ι' q kd 0 1 lf ∧ KcC ι' q kd lk Lk lc Lc) → Fr (fKi q cm) ι ι' → K ι') → bC sc 81 [br 8 0, bi q] ι (bk0 K H)) ∧
    (∀ (ι : bm_S) (K : bm_S → Prop) (H : Nat × Int → bm_S → Prop), mR ι β lim p → ι 13 0 19 = pc → PaM ι PA → (r = 0 → ∀ ι' : bm_S, mR ι' β lim p' → PaM ι' PA' → KM ι' q kd 0 1 lf → KcM ι' q kd lk Lk lc Lc → Fr (gKi q) ι ι' → K ι') → (r ≠ 0 → ∀ ι' : bm_S, mR ι' β lim p' → ι' 12 0 6 = r → PaM ι' PA' → Fr (gKi q) ι ι' → H (12, 0) ι') → bC sc 194 [br 13 0, bi q] ι (bk0 K H)) := by
  obtain ⟨p1, r1, kd, i1, i2, i3, i4, i5, i6, i7⟩ := j_howMany (sc := sc) hw p h0 h1
  by_cases hr : r1 = 0
  · have hkd := i5 hr
    -- both behind the number
    have goC : ∀ (ι : bm_S) (Q : bm_O → bm_S → Prop), cR ι β lim p 0 → ι 8 0 3 = pc → ι 8 0 6 = cm → PaC ι PA → (∀ ι' : bm_S, cR ι' β lim p1 0 → PaC ι' (nt PA pc (2 + q) kd) → ι' 43 cm q = kd → KC ι' q kd 0 1 0 → Fr (fun t i j => fR t i j ∨ t = 52 ∨ t = 43 ∧ i = cm ∧ j = q ∨ t = 1 ∧ i = q) ι ι' → (if kd ≤ (1 : Int) then Q (.inl none) ι' else (bm_rg (kd + 2)) ∧ bC sc 26 [br 4 0, br 3 (74 + 2 * q), bi (kd + 2)] ι' (bk0 (fun ι5 => bC sc 26 [br 4 0, br 3 (75 + 2 * q), bi 26] ι5 (bk0 (fun ι6 => bC sc 11 [br 1 q, br 0 0] ι6 (bk0 (fun ι7 => Q (.inl none) ι7) (bq Q))) (bq Q))) (bq Q)))) → bC sc 81 [br 8 0, bi q] ι Q := by
      intro ι Q hR h3 h6 hP h
      refine e_O_readKinds_0 (i6 ι _ _ hR fun ι1 x a1 a2 a3 => ?_)
      rw [a2 hr]
      rw [hr] at a1
      refine s_fine (fun _ => bif_f (by omega) ⟨by omega, s_note (pc := pc) (by omega) (by rw [a3 8 0 3 (by omega)]; exact h3) hpc fun ι2 b1 b2 => ⟨rfl, by omega, by omega, e_K_start_0 ?_⟩⟩) (fun e => absurd a1.2.2.1 e)
      have e6 : ι2 8 0 6 = cm := by rw [b2 8 0 6 (by omega), a3 8 0 6 (by omega)]; exact h6
      rw [e6]
      have hF : Fr (fun t i j => fR t i j ∨ t = 52 ∨ t = 43 ∧ i = cm ∧ j = q ∨ t = 1 ∧ i = q) ι (up (up (up (up (up ι2 43 cm q kd) 1 q 2 kd) 1 q 3 0) 1 q 4 1) 1 q 5 0) := (((((((a3.wide fun t i j q => by grind).trans (b2.wide fun t i j q => by grind)).u (by omega)).u (by omega)).u (by omega)).u (by omega)).u (by omega))
      refine h _ (hR.fr hF (fun j => by omega) (by simp (disch := omega) only [up_s, up_k, up_j, up_i]; rw [b2 0 0 1 (by omega)]; exact a1.1) (by simp (disch := omega) only [up_s, up_k, up_j, up_i]; rw [b2 0 0 3 (by omega)]; exact a1.2.2.1)) (fun j j0 j1 => ?_) (by simp (disch := omega) only [up_s, up_k, up_j, up_i]) ⟨by simp (disch := omega) only [up_s, up_k, up_j, up_i], by simp (disch := omega) only [up_s, up_k, up_j, up_i], by simp (disch := omega) only [up_s, up_k, up_j, up_i], by simp (disch := omega) only [up_s, up_k, up_j, up_i]⟩ hF
      simp (disch := omega) only [up_s, up_k, up_j, up_i]
      rw [b1]
      exact nt_ext hpc (by omega) (fun j a b => by rw [a3 52 0 j (by omega)]; exact hP j a b) j j0 j1
    have goM : ∀ (ι : bm_S) (Q : bm_O → bm_S → Prop), mR ι β lim p → ι 13 0 19 = pc → PaM ι PA → (∀ ι' : bm_S, mR ι' β lim p1 → PaM ι' (nt PA pc (2 + q) kd) → KM ι' q kd 0 1 0 → Fr (fun t i j => gR t i j ∨ t = 76 ∨ (t = 78 ∨ t = 79 ∨ t = 80 ∨ t = 81) ∧ j = q) ι ι' → (if kd ≤ (1 : Int) then Q (.inl none) ι' else bC sc 178 [br 13 0, bi (14 * q), bi (kd + 2)] ι' (bk0 (fun ι3 => (bm_rg (26 * q)) ∧ (bm_rg (42 + 26 * q)) ∧ bC sc 178 [br 13 0, bi (42 + 26 * q), bi 26] ι3 (bk0 (fun ι4 => bC sc 193 [br 13 0, bi q] ι4 (bk1 (fun r5 ι5 => (0 ≤ q ∧ q < (3 : Int)) ∧ Q (.inl none) (up ι5 81 0 q r5)) (bq Q))) (bq Q))) (bq Q)))) → (∀ H' : Nat × Int → bm_S → Prop, True) → bC sc 194 [br 13 0, bi q] ι Q := by
      intro ι Q hR h3 hP h _
      refine e_M_readKinds_0 (i7 ι _ _ hR (fun _ ι1 a1 a2 => ⟨by omega, by omega, by omega, ?_⟩) (fun e => absurd hr e))
      rw [up_s]
      refine m_tell (pc := pc) (by omega) (by simp (disch := omega) only [up_s, up_k, up_j, up_i]; rw [a2 13 0 19 (by omega)]; exact h3) hpc fun ι2 b1 b2 => ?_
      have e78 : ι2 78 0 q = kd := by rw [b2 78 0 q (by omega), up_s]
      rw [e78]
      have hF : Fr (fun t i j => gR t i j ∨ t = 76 ∨ (t = 78 ∨ t = 79 ∨ t = 80 ∨ t = 81) ∧ j = q) ι (up (up (up ι2 79 0 q 0) 80 0 q 1) 81 0 q 0) := ((((((a2.wide fun t i j q => by grind).u (by omega)).trans (b2.wide fun t i j q => by grind)).u (by omega)).u (by omega)).u (by omega))
      have hgo := h _ (hR.fr hF (fun j => by omega) (by simp (disch := omega) only [up_s, up_k, up_j, up_i]; rw [b2 13 0 16 (by omega)]; simp (disch := omega) only [up_s, up_k, up_j, up_i]; exact a1.1)) (fun j j0 j1 => by
        simp (disch := omega) only [up_s, up_k, up_j, up_i]
        rw [b1]
        exact nt_ext hpc (by omega) (fun j a b => by rw [up_k (by decide), a2 76 0 j (by omega)]; exact hP j a b) j j0 j1) ⟨by simp (disch := omega) only [up_s, up_k, up_j, up_i]; exact e78, by simp (disch := omega) only [up_s, up_k, up_j, up_i], by simp (disch := omega) only [up_s, up_k, up_j, up_i], by simp (disch := omega) only [up_s, up_k, up_j, up_i]⟩ hF
      refine ⟨by omega, by omega, by omega, by omega, bif_i (fun c => ?_) (fun c => ?_)⟩
      · rw [if_pos c] at hgo; exact hgo
      · rw [if_neg c] at hgo; exact ⟨by omega, by omega, by omega, hgo⟩
    by_cases hk1 : kd ≤ 1
    · refine ⟨p1, 0, kd, 0, 0, 0, fun _ => 0, fun _ => 0, nt PA pc (2 + q) kd, i1, i2, Or.inl rfl, fun _ => ⟨⟨by omega, by omega, fun e => by omega, by omega, by omega⟩, fun e => by omega, rfl⟩, Or.inr ⟨kd, rfl⟩, ?_, ?_⟩
      · intro ι K H hR h3 h6 hP h
        exact goC ι _ hR h3 h6 hP fun ι' g1 g2 g3 g4 g5 => bif_t hk1 (h ι' g1 g2 (fun _ => ⟨g3, g4, fun e => by omega⟩) (g5.wide fun t i j q => by grind))
      · intro ι K H hR h3 hP h hh
        exact goM ι _ hR h3 hP (fun ι' g1 g2 g3 g4 => bif_t hk1 (h rfl ι' g1 g2 g3 (fun e => by omega) (g4.wide fun t i j q => by grind))) (fun _ => trivial)
    · obtain ⟨p2, r2, lk, Lk, t1, t2, t3, t4, t5, t6⟩ := j_code (sc := sc) (a := (kd + 2).toNat) hw (by omega) p1 (by omega) i2
      have hcast : (((kd + 2).toNat : Nat) : Int) = kd + 2 := by omega
      have hL14 : bm_L 22 (74 + 2 * q) = 14 := by rcases (show q = 0 ∨ q = 1 ∨ q = 2 by omega) with rfl | rfl | rfl <;> rfl
      have hL26 : bm_L 22 (75 + 2 * q) = 26 := by rcases (show q = 0 ∨ q = 1 ∨ q = 2 by omega) with rfl | rfl | rfl <;> rfl
      rw [hcast] at t5 t6
      by_cases hr2 : r2 = 0
      · obtain ⟨hO1, -⟩ := t4 hr2
        obtain ⟨p3, r3, lc, Lc, u1, u2, u3, u4, u5, u6⟩ := j_code (sc := sc) (a := 26) hw (by omega) p2 (by omega) t2
        by_cases hr3 : r3 = 0
        · obtain ⟨hO2, -⟩ := u4 hr3
          obtain ⟨p4, r4, v, x1, x2, x3, x4, x5, x6, x7⟩ := j_count (sc := sc) hw hO2 q hq p3 (by omega) u2
          refine ⟨p4, r4, kd, v, lk, lc, Lk, Lc, nt PA pc (2 + q) kd, by omega, x2, by omega, fun _ => ⟨⟨by omega, by omega, fun e => by omega, by omega, by omega⟩, fun _ => ⟨hO1, hO2⟩, rfl⟩, Or.inr ⟨kd, rfl⟩, ?_, ?_⟩
          · intro ι K H hR h3 h6 hP h
            refine goC ι _ hR h3 h6 hP fun ι1 g1 g2 g3 g4 g5 => bif_f hk1 ⟨by omega, t5 ι1 _ _ _ (by omega) (by omega) g1 fun ι2 a1 a2 a3 => ?_⟩
            rw [hr2] at a1
            refine u5 ι2 _ _ _ (by omega) (by omega) a1 fun ι3 b1 b2 b3 => ?_
            rw [hr3] at b1
            refine x6 ι3 _ _ b1 (b2 hr3) fun ι4 c1 c2 c3 c4 => ?_
            have hF : Fr (fKi q cm) ι ι4 := (((g5.wide fun t i j q => by grind).trans (a3.wide fun t i j q => by grind)).trans (b3.wide fun t i j q => by grind)).trans (c4.wide fun t i j q => by grind)
            refine h ι4 c1 (((g2.fr a3 (fun j => by omega)).fr b3 (fun j => by omega)).fr c4 (fun j => by omega)) (fun e => ⟨?_, ⟨?_, ?_, ?_, c2 e⟩, fun _ => ⟨((a2 hr2).fr b3 (fun j => by omega)).fr c4 (fun j => by omega), (b2 hr3).fr c4 (fun j => by omega)⟩⟩) hF
            · rw [c4 43 cm q (by omega), b3 43 cm q (by omega), a3 43 cm q (by omega)]; exact g3
            · rw [c4 1 q 2 (by omega), b3 1 q 2 (by omega), a3 1 q 2 (by omega)]; exact g4.1
            · rw [c4 1 q 3 (by omega), b3 1 q 3 (by omega), a3 1 q 3 (by omega)]; exact g4.2.1
            · rw [c4 1 q 4 (by omega), b3 1 q 4 (by omega), a3 1 q 4 (by omega)]; exact g4.2.2.1
          · intro ι K H hR h3 hP h hh
            refine goM ι _ hR h3 hP (fun ι1 g1 g2 g3 g4 => bif_f hk1 (t6 ι1 _ _ _ (by omega) (by omega) g1 (fun _ ι2 a1 a2 a3 => ⟨by omega, by omega, u6 ι2 _ _ _ (by omega) (by omega) a1 (fun _ ι3 b1 b2 b3 => x7 ι3 _ _ b1 b2 (fun e ι4 c1 c2 => ⟨by omega, ?_⟩) (fun e ι4 c1 c2 c3 => ?_)) (fun e => absurd hr3 e)⟩) (fun e => absurd hr2 e))) (fun _ => trivial)
            · have hF : Fr (gKi q) ι (up ι4 81 0 q v) := ((((g4.wide fun t i j q => by grind).trans (a3.wide fun t i j q => by grind)).trans (b3.wide fun t i j q => by grind)).trans (c2.wide fun t i j q => by grind)).u (by omega)
              have hF4 : Fr (fun t i j => gR t i j ∨ t = 81) ι3 (up ι4 81 0 q v) := (c2.wide fun t i j q => by grind).u (by omega)
              refine h e _ (hR.fr hF (fun j => by omega) (by simp (disch := omega) only [up_s, up_k, up_j, up_i]; exact c1.1)) (((g2.fr a3 (fun j => by omega)).fr b3 (fun j => by omega)).fr hF4 (fun j => by omega)) ⟨?_, ?_, ?_, by simp (disch := omega) only [up_s, up_k, up_j, up_i]⟩ (fun _ => ⟨(a2.fr b3 (fun s hs => by omega) (by omega)).fr hF4 (fun s hs => by omega) (by omega), b2.fr hF4 (fun s hs => by omega) (by omega)⟩) hF
              · rw [up_k (by decide), c2 78 0 q (by omega), b3 78 0 q (by omega), a3 78 0 q (by omega)]; exact g3.1
              · rw [up_k (by decide), c2 79 0 q (by omega), b3 79 0 q (by omega), a3 79 0 q (by omega)]; exact g3.2.1
              · rw [up_k (by decide), c2 80 0 q (by omega), b3 80 0 q (by omega), a3 80 0 q (by omega)]; exact g3.2.2.1
            · have hF : Fr (gKi q) ι ι4 := (((g4.wide fun t i j q => by grind).trans (a3.wide fun t i j q => by grind)).trans (b3.wide fun t i j q => by grind)).trans (c3.wide fun t i j q => by grind)
              exact hh e ι4 c1 (by omega) (((g2.fr a3 (fun j => by omega)).fr b3 (fun j => by omega)).fr c3 (fun j => by omega)) hF
        · refine ⟨p3, r3, kd, 0, 0, 0, fun _ => 0, fun _ => 0, nt PA pc (2 + q) kd, by omega, u2, by omega, fun e => absurd e hr3, Or.inr ⟨kd, rfl⟩, ?_, ?_⟩
          · intro ι K H hR h3 h6 hP h
            refine goC ι _ hR h3 h6 hP fun ι1 g1 g2 g3 g4 g5 => bif_f hk1 ⟨by omega, t5 ι1 _ _ _ (by omega) (by omega) g1 fun ι2 a1 a2 a3 => ?_⟩
            rw [hr2] at a1
            refine u5 ι2 _ _ _ (by omega) (by omega) a1 fun ι3 b1 b2 b3 => ?_
            refine s_count_err (by rw [b1.2.2.1]; exact hr3) ?_
            have hF1 : Fr (fun t i j => t = 1 ∧ i = q) ι3 (up ι3 1 q 5 (1 + 0)) := (Fr.refl _ _).u (by omega)
            have hF : Fr (fKi q cm) ι (up ι3 1 q 5 (1 + 0)) := (((g5.wide fun t i j q => by grind).trans (a3.wide fun t i j q => by grind)).trans (b3.wide fun t i j q => by grind)).trans (hF1.wide fun t i j q => by grind)
            exact h _ (b1.fr hF1 (fun j => by omega) (by simp (disch := omega) only [up_s, up_k, up_j, up_i]; exact b1.1) (by simp (disch := omega) only [up_s, up_k, up_j, up_i]; exact b1.2.2.1)) (((g2.fr a3 (fun j => by omega)).fr b3 (fun j => by omega)).fr hF1 (fun j => by omega)) (fun e => absurd e hr3) hF
          · intro ι K H hR h3 hP h hh
            refine goM ι _ hR h3 hP (fun ι1 g1 g2 g3 g4 => bif_f hk1 (t6 ι1 _ _ _ (by omega) (by omega) g1 (fun _ ι2 a1 a2 a3 => ⟨by omega, by omega, u6 ι2 _ _ _ (by omega) (by omega) a1 (fun e => absurd e hr3) (fun e ι3 b1 b2 b3 => ?_)⟩) (fun e => absurd hr2 e))) (fun _ => trivial)
            exact hh hr3 ι3 b1 b2 ((g2.fr a3 (fun j => by omega)).fr b3 (fun j => by omega)) (((g4.wide fun t i j q => by grind).trans (a3.wide fun t i j q => by grind)).trans (b3.wide fun t i j q => by grind))
      · refine ⟨p2, r2, kd, 0, 0, 0, fun _ => 0, fun _ => 0, nt PA pc (2 + q) kd, by omega, t2, by omega, fun e => absurd e hr2, Or.inr ⟨kd, rfl⟩, ?_, ?_⟩
        · intro ι K H hR h3 h6 hP h
          refine goC ι _ hR h3 h6 hP fun ι1 g1 g2 g3 g4 g5 => bif_f hk1 ⟨by omega, t5 ι1 _ _ _ (by omega) (by omega) g1 fun ι2 a1 a2 a3 => ?_⟩
          have hb2 : ι2 0 0 3 ≠ 0 := by rw [a1.2.2.1]; exact hr2
          refine s_tell_err hb2 fun ι3 b3 => ?_
          have hb3 : ι3 0 0 3 ≠ 0 := by rw [b3 0 0 3 (by omega)]; exact hb2
          refine s_count_err hb3 ?_
          have hF1 : Fr (fun t i j => t = 1 ∧ i = q) ι3 (up ι3 1 q 5 (1 + 0)) := (Fr.refl _ _).u (by omega)
          have hF : Fr (fKi q cm) ι (up ι3 1 q 5 (1 + 0)) := (((g5.wide fun t i j q => by grind).trans (a3.wide fun t i j q => by grind)).trans (b3.wide fun t i j q => by grind)).trans (hF1.wide fun t i j q => by grind)
          have hR3 : cR ι3 β lim p2 r2 := a1.fr b3 (fun j => by omega) (by rw [b3 0 0 1 (by omega)]; exact a1.1) (by rw [b3 0 0 3 (by omega)]; exact a1.2.2.1)
          exact h _ (hR3.fr hF1 (fun j => by omega) (by simp (disch := omega) only [up_s, up_k, up_j, up_i]; rw [b3 0 0 1 (by omega)]; exact a1.1) (by simp (disch := omega) only [up_s, up_k, up_j, up_i]; rw [b3 0 0 3 (by omega)]; exact a1.2.2.1)) (((g2.fr a3 (fun j => by omega)).fr b3 (fun j => by omega)).fr hF1 (fun j => by omega)) (fun e => absurd e hr2) hF
        · intro ι K H hR h3 hP h hh
          refine goM ι _ hR h3 hP (fun ι1 g1 g2 g3 g4 => bif_f hk1 (t6 ι1 _ _ _ (by omega) (by omega) g1 (fun e => absurd e hr2) (fun e ι2 a1 a2 a3 => ?_))) (fun _ => trivial)
          exact hh hr2 ι2 a1 a2 (g2.fr a3 (fun j => by omega)) ((g4.wide fun t i j q => by grind).trans (a3.wide fun t i j q => by grind))
  · refine ⟨p1, r1, 1, 0, 0, 0, fun _ => 0, fun _ => 0, PA, i1, i2, by omega, fun e => absurd e hr, Or.inl rfl, ?_, ?_⟩
    · intro ι K H hR h3 h6 hP h
      refine e_O_readKinds_0 (i6 ι _ _ hR fun ι1 x a1 a2 a3 => s_fine (fun e => absurd e (by rw [a1.2.2.1]; exact hr)) (fun _ => bif_t rfl ?_))
      exact h ι1 a1 (hP.fr a3 (fun j => by omega)) (fun e => absurd e hr) (a3.wide fun t i j q => by grind)
    · intro ι K H hR h3 hP h hh
      exact e_M_readKinds_0 (i7 ι _ _ hR (fun e => absurd e hr) (fun _ ι1 a1 a2 a3 => hh hr ι1 a1 a2 (hP.fr a3 (fun j => by omega)) (a3.wide fun t i j q => by grind)))
theorem s_kinds_err {ι : bm_S} {K : bm_S → Prop} {H : Nat × Int → bm_S → Prop} {q : Int} (hr : ι 0 0 3 ≠ 0) (h : K ι) : bC sc 81 [br 8 0, bi q] ι (bk0 K H) := e_O_readKinds_0 (s_howMany_err hr (s_fine (fun e => absurd e hr) (fun _ => bif_t rfl h)))
end Kinds
