/-! one part of a row, whole -/
section Part4
variable {sc : bm_Sc} {β : Int → Int} {lim : Int}
variable {s pc wn tl cm has : Int} {f rg PA g c : Int → Int} {W : bm_S}
theorem SC.R {ι ι' : bm_S} (h : SC ι lim s f rg PA pc wn g c) (hF : Fr fR ι ι') : SC ι' lim s f rg PA pc wn g c := h.fr hF (fun j => by omega)
theorem SM.R {ι ι' : bm_S} (h : SM ι s f rg PA pc wn g c) (hF : Fr gR ι ι') : SM ι' s f rg PA pc wn g c := h.fr hF (fun j => by omega)
theorem TD.R {ι ι' : bm_S} (hT : TV tl cm has W) (h : TD ι tl cm has W) (hF : Fr fR ι ι') : TD ι' tl cm has W := h.fr hT hF (fun i j => by omega)
theorem TDm.R {ι ι' : bm_S} (h : TDm ι has W) (hF : Fr gR ι ι') : TDm ι' has W := h.fr hF (fun j => by omega)
theorem RC.pre {ι ι1 ι' : bm_S} {p r la s' pc' tl' cm' has' : Int} {f' rg' PA' : Int → Int} {W' : bm_S} (h : RC β lim ι1 ι' p r la s' f' rg' PA' pc' tl' cm' has' W' wn g c) (hF : Fr fR ι ι1) : RC β lim ι ι' p r la s' f' rg' PA' pc' tl' cm' has' W' wn g c := ⟨h.1, h.2.1, h.2.2.1, h.2.2.2.1, h.2.2.2.2.1, (hF.wide op_R).trans h.2.2.2.2.2⟩
theorem RM.pre {ι ι1 ι' : bm_S} {p s' pc' has' : Int} {f' rg' PA' : Int → Int} {W' : bm_S} (h : RM β lim ι1 ι' p s' f' rg' PA' pc' has' W' wn g c) (hF : Fr gR ι ι1) : RM β lim ι ι' p s' f' rg' PA' pc' has' W' wn g c := ⟨h.1, h.2.1, h.2.2.1, (hF.wide gp_R).trans h.2.2.2⟩
theorem RE.pre {ι ι1 ι' : bm_S} {p r pc' has' : Int} {rg' PA' : Int → Int} {W' : bm_S} (h : RE β lim ι1 ι' p r rg' PA' pc' has' W') (hF : Fr gR ι ι1) : RE β lim ι ι' p r rg' PA' pc' has' W' := ⟨h.1, h.2.1, h.2.2.1, h.2.2.2.1, h.2.2.2.2.1, (hF.wide gp_R).trans h.2.2.2.2.2⟩
theorem rk_fin {Q : bm_O → bm_S → Prop} {x1 y : Int} {w2 : bm_V} {ι : bm_S} (hy : y ≠ 3) (hx : bm_rg (x1 + 1)) (h : bW sc 69 10 [br 8 0, bi (x1 + 1), w2] [] ι Q) : bk1 (fun r5 ι5 => (if r5 = (3 : Int) then nest sc Q x1 ι5 else (bm_rg (x1 + 1)) ∧ bW sc 69 10 [br 8 0, bi (x1 + 1), w2] [] ι5 Q)) (bq Q) (.inl (some (bi y))) ι := by
  show if y = 3 then _ else _
  exact bif_f hy ⟨hx, h⟩
theorem j_part (hw : wfβ β lim) (hs : 0 ≤ s ∧ s ≤ 3000) (hCO : CO pc wn g c) (hpc : pc ≤ 50000) (hT : TV tl cm has W) (hf : ∀ k, 0 ≤ k → k < s → -128 ≤ f k ∧ f k < 128) (hrg : ∀ i, 0 ≤ i → i < 4 → 1 ≤ rg i ∧ rg i ≤ 4096) {x1 : Int} (hx1 : 0 ≤ x1 ∧ x1 < 19200) (p : Int) (hp0 : 0 ≤ p) (hp1 : p ≤ lim) :
    ∃ (p' r la s' : Int) (f' rg' PA' : Int → Int) (pc' tl' cm' has' : Int) (W' : bm_S), RV lim p p' r la s' f' rg' pc pc' tl' cm' has' W' ∧ (r = 0 → p < p') ∧
    (∀ (ι : bm_S) (Q : bm_O → bm_S → Prop) (v2 : bm_V), cR ι β lim p 0 → SC ι lim s f rg PA pc wn g c → ι 8 0 15 = 0 → TD ι tl cm has W → (∀ (ι' : bm_S) (v' : bm_V), RC β lim ι ι' p' r la s' f' rg' PA' pc' tl' cm' has' W' wn g c → bW sc 69 10 [br 8 0, bi (x1 + 1), v'] [] ι' Q) → bW sc 69 10 [br 8 0, bi x1, v2] [] ι Q) ∧
    (∀ (ι : bm_S) (Q : bm_O → bm_S → Prop) (v2 : bm_V), mR ι β lim p → SM ι s f rg PA pc wn g c → TDm ι has W → (r = 0 → ∀ (ι' : bm_S) (v' : bm_V), RM β lim ι ι' p' s' f' rg' PA' pc' has' W' wn g c → bW sc 222 24 [br 13 0, bi la, v'] [] ι' Q) → (r ≠ 0 → ∀ ι' : bm_S, RE β lim ι ι' p' r rg' PA' pc' has' W' → bq Q (12, 0) ι') → bW sc 222 24 [br 13 0, bi 0, v2] [] ι Q) := by
  have hc0 := hCO.1
  obtain ⟨p1, r1, v1, i1, i2, -, i4, i5, i6, i7, i8⟩ := jx_bit (sc := sc) hw p 0 hp0 hp1
  have i4 := i4 rfl
  -- comp up to the first bit
  have goC : ∀ (ι : bm_S) (Q : bm_O → bm_S → Prop) (v2 : bm_V), cR ι β lim p 0 → ι 8 0 15 = 0 → bC sc 74 [br 8 0] ι (bk1 (fun r5 ι5 => (if r5 = (3 : Int) then nest sc Q x1 ι5 else (bm_rg (x1 + 1)) ∧ bW sc 69 10 [br 8 0, bi (x1 + 1), v2] [] ι5 Q)) (bq Q)) → bW sc 69 10 [br 8 0, bi x1, v2] [] ι Q := fun ι Q v2 hR h15 h => e_O_openAll_10 (bif_f (by omega) (bif_t h15 (s_fine (fun _ => bif_f (by omega) h) (fun e => absurd hR.2.2.1 e))))
  -- an early end
  have RVe : ∀ q r : Int, p ≤ q → q ≤ lim → 0 < r ∧ r < 18 → RV lim p q r 0 s f rg pc pc tl cm has W := fun q r a b h => ⟨⟨a, b⟩, Or.inr h, Or.inl rfl, fun e => by omega, hrg, by omega, hT⟩
  by_cases hv1 : v1 = 1
  · -- the last part
    have hr1 : r1 = 0 := by
      by_cases e : r1 = 0
      · exact e
      · have := i5 e; omega
    obtain ⟨p2, r2, v2, j1, j2, -, j4, j5, j6, j7, j8⟩ := jx_bit (sc := sc) hw p1 0 (by omega) i2
    have j4 := j4 rfl
    by_cases hv2 : v2 = 1
    · have hr2 : r2 = 0 := by
        by_cases e : r2 = 0
        · exact e
        · have := j5 e; omega
      refine ⟨p2, 0, 1, s, f, rg, np PA (pc + 1) 0 0, pc + 1, tl, cm, has, W, ⟨⟨by omega, j2⟩, Or.inl rfl, Or.inr rfl, fun _ => ⟨hs.1, hs.2, hf⟩, hrg, by omega, hT⟩, fun _ => by omega, ?_, ?_⟩
      · intro ι Q w2 hR hS h15 hD h
        refine goC ι Q w2 hR h15 (e_O_readPart_0 (i7 ι _ _ hR (fun ι1 x1 F1 => bif_t hv1 ?_)))
        rw [hr1] at x1
        refine j7 ι1 _ _ x1 (fun ι2 x2 F2 => bif_t hv2 ?_)
        rw [hr2] at x2
        have FR := F1.trans F2
        have S2 := hS.R FR
        refine s_addPart (pc := pc) (PA := PA) (by omega) x2.2.2.1 S2.2.2.2.2.1 S2.2.2.2.1 (fun ι3 a1 a2 F3 => ⟨by omega, rk_fin (by omega) (by omega) (h _ _ ?_)⟩)
        have F4 : Fr fNp ι2 (up ι3 8 0 15 1) := (F3.wide fun t i j q => by omega).u (by omega)
        have g51 : ∀ i, 0 ≤ i → i < 4 → up ι3 8 0 15 1 51 0 i = rg i := fun k x y => by rw [F4 51 0 k (by omega)]; exact S2.2.2.1 k x y
        have P4 : PaC (up ι3 8 0 15 1) (np PA (pc + 1) 0 0) := fun j x y => by simp (disch := omega) only [up_s, up_k, up_j, up_i]; exact a2 j x y
        have e1 : up ι3 8 0 15 1 2 1 1 = s := by rw [F4 2 1 1 (by omega)]; exact S2.1
        refine RC.pre (ι1 := ι2) ⟨x2.fr F4 (fun j => by omega) (by rw [F4 0 0 1 (by omega)]; exact x2.1) (by rw [F4 0 0 3 (by omega)]; exact x2.2.2.1), fun _ => ⟨⟨e1, fun k x y => by rw [F4 20 1 k (by omega)]; exact S2.2.1 k x y, g51, P4, by simp (disch := omega) only [up_s, up_k, up_j, up_i]; exact a1, by rw [F4 8 0 13 (by omega)]; exact S2.2.2.2.2.2.1, fun k x y => by rw [F4 64 0 k (by omega)]; exact S2.2.2.2.2.2.2.1 k x y, fun k x y => by rw [F4 65 0 k (by omega)]; exact S2.2.2.2.2.2.2.2.1 k x y, by rw [F4 2 0 1 (by omega)]; exact S2.2.2.2.2.2.2.2.2⟩, by simp (disch := omega) only [up_s, up_k, up_j, up_i]⟩, ⟨by omega, g51, P4⟩, by simp (disch := omega) only [up_s, up_k, up_j, up_i]; exact a1, (hD.R hT FR).fr hT F4 (fun i j => by omega), F4.wide op_Np⟩ FR
      · intro ι Q w2 hR hS hD h hh
        refine e_M_readAll_24 (bif_t rfl (i8 rfl ι _ _ hR (fun _ ι1 x1 F1 => bif_t hv1 ?_) (fun e => absurd hr1 e)))
        refine j8 rfl ι1 _ _ x1 (fun _ ι2 x2 F2 => bif_t hv2 ?_) (fun e => absurd hr2 e)
        have FR := F1.trans F2
        have S2 := hS.R FR
        refine m_newPart (pc := pc) (PA := PA) (by omega) S2.2.2.2.2.1 S2.2.2.2.1 (fun ι3 a1 a2 F3 => h rfl ι3 _ ?_)
        exact RM.pre (ι1 := ι2) ⟨x2.fr F3 (fun j => by omega) (by rw [F3 13 0 16 (by omega)]; exact x2.1), ⟨by rw [F3 13 0 6 (by omega)]; exact S2.1, fun k x y => by rw [F3 67 0 k (by omega)]; exact S2.2.1 k x y, fun k x y => by rw [F3 77 0 (3 - k) (by omega)]; exact S2.2.2.1 k x y, a2, a1, by rw [F3 13 0 42 (by omega)]; exact S2.2.2.2.2.2.1, fun k x y => by rw [F3 68 0 k (by omega)]; exact S2.2.2.2.2.2.2.1 k x y, fun k x y => by rw [F3 69 0 k (by omega)]; exact S2.2.2.2.2.2.2.2 k x y⟩, (hD.R FR).fr F3 (fun j => by omega), F3.wide gp_Np⟩ FR
    · obtain ⟨p3, r3, x, k1, k2, k3, k4, k5, k6, k7, k8⟩ := jx_num2 (sc := sc) hw p2 r2 (by omega) j2
      have hr2 : r2 = 0 ∨ r2 = 1 := by omega
      have hr3 : r3 = 0 ∨ 0 < r3 ∧ r3 < 18 := by
        by_cases e : r2 = 0
        · have := k4 e; omega
        · have := k3 e; omega
      by_cases hx3 : x = 3
      · have hr30 : r3 = 0 := by
          by_cases e : r3 = 0
          · exact e
          · have := k6 e; omega
        have hr20 : r2 = 0 := by
          by_cases e : r2 = 0
          · exact e
          · have := k3 e; omega
        refine ⟨p3, 4, 0, s, f, rg, PA, pc, tl, cm, has, W, RVe p3 4 (by omega) k2 (by omega), fun e => by omega, ?_, ?_⟩
        · intro ι Q w2 hR hS h15 hD h
          refine goC ι Q w2 hR h15 (e_O_readPart_0 (i7 ι _ _ hR (fun ι1 x1 F1 => bif_t hv1 ?_)))
          rw [hr1] at x1
          refine j7 ι1 _ _ x1 (fun ι2 x2 F2 => bif_f hv2 (k7 ι2 _ _ x2 (fun ι3 x3 F3 => bif_t hx3 ?_)))
          rw [hr30] at x3
          have F4 : Fr fR ι3 (up ι3 0 0 3 4) := (Fr.refl _ _).u (by omega)
          refine e_O_passOver_0 (bif_f (by omega) (s_broken (fun _ => ?_) (fun e => absurd x3.2.2.1 e)))
          refine rk_fin (y := 1) (w2 := w2) (by omega) (by omega) (h (up ι3 0 0 3 4) w2 ?_)
          exact RC.err hs hT hS hD (x3.fr F4 (fun j => by omega) (by simp (disch := omega) only [up_s, up_k, up_j, up_i]; exact x3.1) (by simp (disch := omega) only [up_s, up_k, up_j, up_i])) (by omega) (((F1.trans F2).trans F3).trans F4)
        · intro ι Q w2 hR hS hD h hh
          refine e_M_readAll_24 (bif_t rfl (i8 rfl ι _ _ hR (fun _ ι1 x1 F1 => bif_t hv1 ?_) (fun e => absurd hr1 e)))
          refine j8 rfl ι1 _ _ x1 (fun _ ι2 x2 F2 => bif_f hv2 (k8 hr20 ι2 _ _ x2 (fun _ ι3 x3 F3 => bif_t hx3 ?_) (fun e => absurd hr30 e))) (fun e => absurd hr20 e)
          have F4 : Fr gR ι3 (up ι3 12 0 6 4) := (Fr.refl _ _).u (by omega)
          exact e_M_passOver_0 (bif_f (by omega) (m_fail (hh (by omega) _ (RE.err hS hD (x3.fr F4 (fun j => by omega) (by simp (disch := omega) only [up_s, up_k, up_j, up_i]; exact x3.1)) (by simp (disch := omega) only [up_s, up_k, up_j, up_i]) (((F1.trans F2).trans F3).trans F4)))))
      · obtain ⟨p4, r4, n, l1, l2, l3, l4, l5, l6, l7, l8⟩ := j_size (sc := sc) hw hs x (by omega) p3 r3 (by omega) k2 hr3
        have e24 : r2 ≠ 0 → r4 = r2 ∧ p4 = p2 := fun e => by
          have a := k3 e
          have b := l3 (by omega)
          omega
        have goC4 : ∀ (ι : bm_S) (Q : bm_O → bm_S → Prop) (w2 : bm_V), cR ι β lim p 0 → SC ι lim s f rg PA pc wn g c → ι 8 0 15 = 0 → (∀ ι' : bm_S, cR ι' β lim p4 r4 → Fr fR ι ι' → bC sc 2 [br 0 0] ι' (bk1 (fun r15 ι15 => (if r15 = (0 : Int) then ((bm_rg (x1 + 1)) ∧ bW sc 69 10 [br 8 0, bi (x1 + 1), w2] [] ι15 Q) else ((1 : Int) = 0 ∨ (1 : Int) = 1) ∧ bC sc 77 [br 8 0, bi 3, bi n] (up ι15 8 0 15 1) (bk0 (fun ι16 => (bm_rg (ι16 2 1 1 + n)) ∧ nest sc Q x1 (up ι16 8 0 14 (ι16 2 1 1 + n))) (bq Q)))) (bq Q))) → bW sc 69 10 [br 8 0, bi x1, w2] [] ι Q := by
          intro ι Q w2 hR hS h15 h
          refine goC ι Q w2 hR h15 (e_O_readPart_0 (i7 ι _ _ hR (fun ι1 y1 F1 => bif_t hv1 ?_)))
          rw [hr1] at y1
          refine j7 ι1 _ _ y1 (fun ι2 y2 F2 => bif_f hv2 (k7 ι2 _ _ y2 (fun ι3 y3 F3 => bif_f hx3 (l7 ι3 _ _ y3 (hS.R ((F1.trans F2).trans F3)).1 (fun ι4 y4 F4 => ?_)))))
          exact h ι4 y4 (((F1.trans F2).trans F3).trans F4)
        have goM4 : ∀ (ι : bm_S) (Q : bm_O → bm_S → Prop) (w2 : bm_V), mR ι β lim p → SM ι s f rg PA pc wn g c → TDm ι has W → (r4 = 0 → ∀ (ι' : bm_S) (v' : bm_V), mR ι' β lim p4 → Fr gR ι ι' → bC sc 223 [br 13 0, bi 1, bi n] ι' (bk0 (fun ι11 => bW sc 222 24 [br 13 0, bi 1, bi x] [] ι11 Q) (bq Q))) → (r4 ≠ 0 → ∀ ι' : bm_S, RE β lim ι ι' p4 r4 rg PA pc has W → bq Q (12, 0) ι') → bW sc 222 24 [br 13 0, bi 0, w2] [] ι Q := by
          intro ι Q w2 hR hS hD h hh
          refine e_M_readAll_24 (bif_t rfl (i8 rfl ι _ _ hR (fun _ ι1 y1 F1 => bif_t hv1 ?_) (fun e => absurd hr1 e)))
          refine j8 rfl ι1 _ _ y1 (fun e2 ι2 y2 F2 => bif_f hv2 (k8 e2 ι2 _ _ y2 (fun e3 ι3 y3 F3 => bif_f hx3 ⟨by omega, ?_⟩) (fun e3 ι3 y3 z3 F3 => ?_))) (fun e2 ι2 y2 z2 F2 => ?_)
          · have FR := (F1.trans F2).trans F3
            exact l8 e3 ι3 1 (fun _ => True) _ _ y3 (hS.R FR).1 (fun e4 ι4 y4 F4 => h e4 ι4 (bi 0) y4 (FR.trans F4)) (fun e4 ι4 y4 z4 F4 => hh e4 ι4 (RE.err hS hD y4 z4 (FR.trans F4)))
          · have q := l3 e3
            exact hh (by omega) ι3 (RE.err hS hD (by rw [q.2]; exact y3) (by omega) ((F1.trans F2).trans F3))
          · have q := e24 e2
            exact hh (by omega) ι2 (RE.err hS hD (by rw [q.2]; exact y2) (by omega) (F1.trans F2))
        by_cases hr4 : r4 = 0
        · have hr30 : r3 = 0 := by
            by_cases e : r3 = 0
            · exact e
            · have := l3 e; omega
          obtain ⟨p5, r5, f', rg', PA', tl', cm', has', W', t1, t2, t3'⟩ := j_codedPart (sc := sc) (x1 := x1) (PA := PA) hw hs.1 ⟨l5.1, l6 hr4⟩ hCO hpc hT hf hrg (la := 1) (Or.inr rfl) p4 (by omega) l2
          refine ⟨p5, r5, 1, s + n, f', rg', PA', pc + 1, tl', cm', has', W', ⟨⟨by have := t1.1; omega, t1.1.2⟩, t1.2⟩, fun _ => by have := t1.1; omega, ?_, ?_⟩
          · intro ι Q w2 hR hS h15 hD h
            refine goC4 ι Q w2 hR hS h15 (fun ι4 y4 F4 => s_fine (fun _ => bif_f (by omega) ⟨by omega, ?_⟩) (fun e => absurd (y4.2.2.1.trans hr4) e))
            rw [hr4] at y4
            exact t2 ι4 Q y4 (hS.R F4) (hD.R hT F4) (fun ι5 i' z => ⟨by omega, h ι5 _ (z.pre F4)⟩)
          · intro ι Q w2 hR hS hD h hh
            refine goM4 ι Q w2 hR hS hD (fun _ ι4 v' y4 F4 => ?_) (fun e => absurd hr4 e)
            have S4 := hS.R F4
            refine e_M_readPart_0 ?_
            rw [S4.1]
            have q := l6 hr4
            exact ⟨by omega, bif_t (by omega) (bif_f (by omega) (t3' ι4 _ _ y4 S4 (hD.R F4) (fun e ι5 z => h e ι5 _ (z.pre F4)) (fun e ι5 z => hh e ι5 (z.pre F4))))⟩
        · refine ⟨p4, r4, 0, s, f, rg, PA, pc, tl, cm, has, W, RVe p4 r4 (by omega) l2 (by omega), fun e => absurd e hr4, ?_, ?_⟩
          · intro ι Q w2 hR hS h15 hD h
            exact goC4 ι Q w2 hR hS h15 (fun ι4 y4 F4 => s_fine (fun e => absurd (y4.2.2.1.symm.trans e) hr4) (fun _ => bif_t rfl ⟨by omega, h ι4 _ (RC.err hs hT hS hD y4 hr4 F4)⟩))
          · intro ι Q w2 hR hS hD h hh
            exact goM4 ι Q w2 hR hS hD (fun e => absurd e hr4) hh
  · -- not the last
    obtain ⟨p3, r3, x, k1, k2, k3, k4, k5, k6, k7, k8⟩ := jx_num2 (sc := sc) hw p1 r1 (by omega) i2
    have hr3 : r3 = 0 ∨ 0 < r3 ∧ r3 < 18 := by
      by_cases e : r1 = 0
      · have := k4 e; omega
      · have := k3 e; omega
    by_cases hx3 : x = 3
    · have hr30 : r3 = 0 := by
        by_cases e : r3 = 0
        · exact e
        · have := k6 e; omega
      have hr10 : r1 = 0 := by
        by_cases e : r1 = 0
        · exact e
        · have := k3 e; omega
      obtain ⟨p5, r5, PA', t1, t2, t3'⟩ := j_overPart (sc := sc) (PA := PA) (wn := wn) (g := g) (c := c) hw hs ⟨hc0, hpc⟩ hT hf hrg p3 (by omega) k2
      refine ⟨p5, r5, 0, s, f, rg, PA', pc + 1, tl, cm, has, W, ⟨⟨by have := t1.1; omega, t1.1.2⟩, t1.2⟩, fun _ => by have := t1.1; omega, ?_, ?_⟩
      · intro ι Q w2 hR hS h15 hD h
        refine goC ι Q w2 hR h15 (e_O_readPart_0 (i7 ι _ _ hR (fun ι1 y1 F1 => bif_f hv1 (k7 ι1 _ _ y1 (fun ι3 y3 F3 => bif_t hx3 ?_)))))
        rw [hr30] at y3
        have FR := F1.trans F3
        exact t2 ι3 _ _ y3 (hS.R FR) (by rw [FR 8 0 15 (by omega)]; exact h15) (hD.R hT FR) (fun ι5 z => rk_fin (by omega) (by omega) (h ι5 _ (z.pre FR)))
      · intro ι Q w2 hR hS hD h hh
        refine e_M_readAll_24 (bif_t rfl (i8 rfl ι _ _ hR (fun _ ι1 y1 F1 => bif_f hv1 (k8 hr10 ι1 _ _ y1 (fun _ ι3 y3 F3 => bif_t hx3 ?_) (fun e => absurd hr30 e))) (fun e => absurd hr10 e)))
        have FR := F1.trans F3
        exact t3' ι3 _ _ y3 (hS.R FR) (hD.R FR) (fun e ι5 z => h e ι5 _ (z.pre FR)) (fun e ι5 z => hh e ι5 (z.pre FR))
    · obtain ⟨p4, r4, n, l1, l2, l3, l4, l5, l6, l7, l8⟩ := j_size (sc := sc) hw hs x (by omega) p3 r3 (by omega) k2 hr3
      obtain ⟨p5, r5, v5, m1, m2, m3, m4, m5, m6, m7, m8⟩ := jx_bit (sc := sc) hw p4 r4 (by omega) l2
      have hr5 : r5 = 0 ∨ 0 < r5 ∧ r5 < 18 := by
        by_cases e : r4 = 0
        · have := m4 e; omega
        · have := m3 e; omega
      have e45 : r4 ≠ 0 → r5 = r4 ∧ p5 = p4 := m3
      have e35 : r3 ≠ 0 → r5 = r3 ∧ p5 = p3 := fun e => by
        have a := l3 e
        have b := m3 (by omega)
        omega
      have e15 : r1 ≠ 0 → r5 = r1 ∧ p5 = p1 := fun e => by
        have a := k3 e
        have b := e35 (by omega)
        omega
      have goC5 : ∀ (ι : bm_S) (Q : bm_O → bm_S → Prop) (w2 : bm_V), cR ι β lim p 0 → SC ι lim s f rg PA pc wn g c → ι 8 0 15 = 0 → (∀ ι' : bm_S, cR ι' β lim p5 r5 → Fr fR ι ι' → (if v5 = (1 : Int) then bC sc 2 [br 0 0] ι' (bk1 (fun r7 ι7 => (if r7 = (0 : Int) then ((bm_rg (x1 + 1)) ∧ bW sc 69 10 [br 8 0, bi (x1 + 1), w2] [] ι7 Q) else ((0 : Int) = 0 ∨ (0 : Int) = 1) ∧ bC sc 77 [br 8 0, bi 2, bi n] (up ι7 8 0 15 0) (bk0 (fun ι8 => bC sc 6 [br 0 0] ι8 (bk0 (fun ι9 => bC sc 8 [br 0 0, br 2 1, bi n] ι9 (bk0 (fun ι10 => ((bm_rg (x1 + 1)) ∧ bW sc 69 10 [br 8 0, bi (x1 + 1), w2] [] ι10 Q)) (bq Q))) (bq Q))) (bq Q)))) (bq Q)) else bC sc 2 [br 0 0] ι' (bk1 (fun r15 ι15 => (if r15 = (0 : Int) then ((bm_rg (x1 + 1)) ∧ bW sc 69 10 [br 8 0, bi (x1 + 1), w2] [] ι15 Q) else ((0 : Int) = 0 ∨ (0 : Int) = 1) ∧ bC sc 77 [br 8 0, bi 3, bi n] (up ι15 8 0 15 0) (bk0 (fun ι16 => (bm_rg (ι16 2 1 1 + n)) ∧ nest sc Q x1 (up ι16 8 0 14 (ι16 2 1 1 + n))) (bq Q)))) (bq Q)))) → bW sc 69 10 [br 8 0, bi x1, w2] [] ι Q := by
        intro ι Q w2 hR hS h15 h
        refine goC ι Q w2 hR h15 (e_O_readPart_0 (i7 ι _ _ hR (fun ι1 y1 F1 => bif_f hv1 (k7 ι1 _ _ y1 (fun ι3 y3 F3 => bif_f hx3 (l7 ι3 _ _ y3 (hS.R (F1.trans F3)).1 (fun ι4 y4 F4 => m7 ι4 _ _ y4 (fun ι5 y5 F5 => ?_))))))))
        exact h ι5 y5 (((F1.trans F3).trans F4).trans F5)
      have goM5 : ∀ (ι : bm_S) (Q : bm_O → bm_S → Prop) (w2 : bm_V), mR ι β lim p → SM ι s f rg PA pc wn g c → TDm ι has W → (r5 = 0 → ∀ (ι' : bm_S) (v' : bm_V), mR ι' β lim p5 → Fr gR ι ι' → (if v5 = (1 : Int) then bC sc 187 [br 13 0, bi 2, bi n] ι' (bk0 (fun ι4 => bC sc 175 [br 13 0] ι4 (bk0 (fun ι5 => bW sc 223 70 [br 13 0, bi 0, bi n, bi 1, bi 0] [] ι5 (bk0 (fun ι11 => bW sc 222 24 [br 13 0, bi 0, bi x] [] ι11 Q) (bq Q))) (bq Q))) (bq Q)) else bC sc 187 [br 13 0, bi 3, bi n] ι' (bk0 (fun ι2 => bC sc 216 [br 13 0, bi n] ι2 (bk0 (fun ι11 => bW sc 222 24 [br 13 0, bi 0, bi x] [] ι11 Q) (bq Q))) (bq Q)))) → (r5 ≠ 0 → ∀ ι' : bm_S, RE β lim ι ι' p5 r5 rg PA pc has W → bq Q (12, 0) ι') → bW sc 222 24 [br 13 0, bi 0, w2] [] ι Q := by
        intro ι Q w2 hR hS hD h hh
        refine e_M_readAll_24 (bif_t rfl (i8 rfl ι _ _ hR (fun e1 ι1 y1 F1 => bif_f hv1 (k8 e1 ι1 _ _ y1 (fun e3 ι3 y3 F3 => bif_f hx3 ⟨by omega, ?_⟩) (fun e3 ι3 y3 z3 F3 => ?_))) (fun e1 ι1 y1 z1 F1 => ?_)))
        · have FR := F1.trans F3
          refine l8 e3 ι3 0 (fun _ => True) _ _ y3 (hS.R FR).1 (fun e4 ι4 y4 F4 => ?_) (fun e4 ι4 y4 z4 F4 => ?_)
          · refine e_M_readPart_0 ?_
            rw [(hS.R (FR.trans F4)).1]
            have q := l6 e4
            exact ⟨by omega, bif_t (by omega) (bif_t rfl (m8 e4 ι4 _ _ y4 (fun e5 ι5 y5 F5 => h e5 ι5 (bi 0) y5 ((FR.trans F4).trans F5)) (fun e5 ι5 y5 z5 F5 => hh e5 ι5 (RE.err hS hD y5 z5 ((FR.trans F4).trans F5)))))⟩
          · have q := e45 e4
            exact hh (by omega) ι4 (RE.err hS hD (by rw [q.2]; exact y4) (by omega) (FR.trans F4))
        · have q := e35 e3
          exact hh (by omega) ι3 (RE.err hS hD (by rw [q.2]; exact y3) (by omega) (F1.trans F3))
        · have q := e15 e1
          exact hh (by omega) ι1 (RE.err hS hD (by rw [q.2]; exact y1) (by omega) F1)
      by_cases hr50 : r5 = 0
      · have hr40 : r4 = 0 := by
          by_cases e : r4 = 0
          · exact e
          · have := e45 e; omega
        have m4 := m4 hr40
        by_cases hv5 : v5 = 1
        · obtain ⟨p6, r6, f', PA', t1, t2, t3'⟩ := j_rawPart (sc := sc) (PA := PA) (wn := wn) (g := g) (c := c) hw hs.1 ⟨l5.1, l6 hr40⟩ ⟨hc0, hpc⟩ hT hf hrg p5 (by omega) m2
          refine ⟨p6, r6, 0, s + n, f', rg, PA', pc + 1, tl, cm, has, W, ⟨⟨by have := t1.1; omega, t1.1.2⟩, t1.2⟩, fun _ => by have := t1.1; omega, ?_, ?_⟩
          · intro ι Q w2 hR hS h15 hD h
            refine goC5 ι Q w2 hR hS h15 (fun ι5 y5 F5 => bif_t hv5 (s_fine (fun _ => bif_f (by omega) ⟨by omega, ?_⟩) (fun e => absurd (y5.2.2.1.trans hr50) e)))
            rw [hr50] at y5
            exact t2 ι5 _ _ y5 (hS.R F5) (hD.R hT F5) (fun ι6 z => ⟨by omega, h ι6 _ (z.pre F5)⟩)
          · intro ι Q w2 hR hS hD h hh
            exact goM5 ι Q w2 hR hS hD (fun _ ι5 v' y5 F5 => bif_t hv5 (t3' ι5 _ _ _ y5 (hS.R F5) (hD.R F5) (fun e ι6 z => h e ι6 _ (z.pre F5)) (fun e ι6 z => hh e ι6 (z.pre F5)))) (fun e => absurd hr50 e)
        · obtain ⟨p6, r6, f', rg', PA', tl', cm', has', W', t1, t2, t3'⟩ := j_codedPart (sc := sc) (x1 := x1) (PA := PA) hw hs.1 ⟨l5.1, l6 hr40⟩ hCO hpc hT hf hrg (la := 0) (Or.inl rfl) p5 (by omega) m2
          refine ⟨p6, r6, 0, s + n, f', rg', PA', pc + 1, tl', cm', has', W', ⟨⟨by have := t1.1; omega, t1.1.2⟩, t1.2⟩, fun _ => by have := t1.1; omega, ?_, ?_⟩
          · intro ι Q w2 hR hS h15 hD h
            refine goC5 ι Q w2 hR hS h15 (fun ι5 y5 F5 => bif_f hv5 (s_fine (fun _ => bif_f (by omega) ⟨by omega, ?_⟩) (fun e => absurd (y5.2.2.1.trans hr50) e)))
            rw [hr50] at y5
            exact t2 ι5 Q y5 (hS.R F5) (hD.R hT F5) (fun ι6 i' z => ⟨by omega, h ι6 _ (z.pre F5)⟩)
          · intro ι Q w2 hR hS hD h hh
            exact goM5 ι Q w2 hR hS hD (fun _ ι5 v' y5 F5 => bif_f hv5 (t3' ι5 _ _ y5 (hS.R F5) (hD.R F5) (fun e ι6 z => h e ι6 _ (z.pre F5)) (fun e ι6 z => hh e ι6 (z.pre F5)))) (fun e => absurd hr50 e)
      · refine ⟨p5, r5, 0, s, f, rg, PA, pc, tl, cm, has, W, RVe p5 r5 (by omega) m2 (by omega), fun e => absurd e hr50, ?_, ?_⟩
        · intro ι Q w2 hR hS h15 hD h
          refine goC5 ι Q w2 hR hS h15 (fun ι5 y5 F5 => ?_)
          have K5 := h ι5 w2 (RC.err hs hT hS hD y5 hr50 F5)
          exact bif_i (fun _ => s_fine (fun e => absurd (y5.2.2.1.symm.trans e) hr50) (fun _ => bif_t rfl ⟨by omega, K5⟩)) (fun _ => s_fine (fun e => absurd (y5.2.2.1.symm.trans e) hr50) (fun _ => bif_t rfl ⟨by omega, K5⟩))
        · intro ι Q w2 hR hS hD h hh
          exact goM5 ι Q w2 hR hS hD (fun e => absurd e hr50) hh
end Part4
