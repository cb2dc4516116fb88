/-! the trees of a sort: how many, and their map -/
section Trees
variable {sc : bm_Sc} {β : Int → Int} {lim : Int}
abbrev fTr46 (cm : Int) (t : Nat) (i j : Int) : Prop := fM46 cm t i j ∨ t = 52 ∨ t = 44 ∧ i = cm ∧ j = 0
abbrev fTr47 (cm : Int) (t : Nat) (i j : Int) : Prop := fM47 cm t i j ∨ t = 52 ∨ t = 44 ∧ i = cm ∧ j = 1
abbrev gTr83 (t : Nat) (i j : Int) : Prop := gM83 t i j ∨ t = 76 ∨ t = 13 ∧ j = 29
abbrev gTr84 (t : Nat) (i j : Int) : Prop := gM84 t i j ∨ t = 76 ∨ t = 13 ∧ j = 30
theorem j_trees46 (hw : wfβ β lim) {kd : Int} (hkd : 1 ≤ kd ∧ kd ≤ 12) (pc cm : Int) (hpc : 0 ≤ pc) (PA : Int → Int) (p : Int) (hp0 : 0 ≤ p) (hp1 : p ≤ lim) :
    ∃ (p' r tr : Int) (M' PA' : Int → Int), p ≤ p' ∧ p' ≤ lim ∧ (r = 0 ∨ 0 < r ∧ r < 18) ∧ (r = 0 → (1 ≤ tr ∧ tr ≤ 12) ∧ (∀ j, 0 ≤ j → j < 768 → 0 ≤ M' j ∧ M' j < tr) ∧ PA' = nt PA pc 5 tr) ∧ (PA' = PA ∨ ∃ v, PA' = nt PA pc 5 v) ∧
    (∀ (ι : bm_S) (K : bm_S → Prop) (H : Nat × Int → bm_S → Prop), cR ι β lim p 0 → ι 8 0 3 = pc → ι 8 0 6 = cm → ι 43 cm 0 = kd → PaC ι PA → (∀ ι' : bm_S, cR ι' β lim p' r → PaC ι' PA' → (r = 0 → ι' 44 cm 0 = tr ∧ ∀ j, 0 ≤ j → j < 768 → ι' 46 cm j = M' j) → Fr (fTr46 cm) ι ι' → K ι') → bC sc 83 [br 8 0, bi 0] ι (bk0 K H)) ∧
    (∀ (ι : bm_S) (N : bm_S → Prop) (H : Nat × Int → bm_S → Prop), mR ι β lim p → ι 13 0 19 = pc → ι 78 0 0 = kd → PaM ι PA → (∀ j, 0 ≤ j → j < 768 → ι 83 0 j = 0) → (r = 0 → ∀ ι' : bm_S, mR ι' β lim p' → PaM ι' PA' → ι' 13 0 29 = tr → (∀ j, 0 ≤ j → j < 768 → ι' 83 0 j = M' j) → Fr gTr83 ι ι' → N ι') → (r ≠ 0 → ∀ ι' : bm_S, mR ι' β lim p' → ι' 12 0 6 = r → PaM ι' PA' → Fr gTr83 ι ι' → H (12, 0) ι') →
      bC sc 190 [br 13 0] ι (bk1 (fun r1 ι1 => bC sc 185 [br 13 0, bi 5, bi r1] (up ι1 13 0 29 r1) (bk0 (fun ι2 => if ι2 13 0 29 ≤ (1 : Int) then N ι2 else (0 ≤ (0 : Int) ∧ (0 : Int) < (3 : Int)) ∧ (bm_rg (64 * ι2 78 0 0)) ∧ bC sc 196 [br 13 0, br 83 0, bi (64 * ι2 78 0 0), bi (ι2 13 0 29)] ι2 (bk0 N H)) H)) H)) := by
  obtain ⟨p1, r1, tr, i1, i2, i3, i4, i5, i6, i7⟩ := j_howMany (sc := sc) hw p hp0 hp1
  by_cases hr : r1 = 0
  · have htr := i5 hr
    obtain ⟨p2, r2, M, k1, k2, k3, k4, k5, k6, k7⟩ := j_map46 (sc := sc) hw hkd (tr := tr) (by omega) cm p1 (by omega) i2
    refine ⟨p2, r2, tr, M, nt PA pc 5 tr, by omega, k2, k3, fun _ => ⟨by omega, k4, rfl⟩, Or.inr ⟨tr, rfl⟩, ?_, ?_⟩
    · intro ι K H hR h3 h6 hk hP h
      refine e_O_readTrees_46_0 (i6 ι _ _ hR fun ι1 x a1 a2 a3 => ?_)
      rw [a2 hr]
      rw [hr] at a1
      refine s_fine (fun _ => bif_f (by omega) ⟨by omega, s_note (pc := pc) (by omega) (by rw [a3 8 0 3 (by omega)]; exact h3) hpc fun ι2 b1 b2 => ⟨rfl, by omega, rfl, e_L_mapOf_0 ?_⟩⟩) (fun e => absurd a1.2.2.1 e)
      have e6 : ι2 8 0 6 = cm := by rw [b2 8 0 6 (by omega), a3 8 0 6 (by omega)]; exact h6
      rw [e6]
      refine bif_t rfl ?_
      have hF : Fr (fun t i j => fR t i j ∨ t = 52 ∨ t = 44 ∧ i = cm ∧ j = 0) ι (up ι2 44 cm 0 tr) := (((a3.wide fun t i j q => by grind).trans (b2.wide fun t i j q => by grind)).u (by omega))
      have hR2 : cR (up ι2 44 cm 0 tr) β lim p1 0 := hR.fr hF (fun j => by omega) (by simp (disch := omega) only [up_s, up_k, up_j, up_i]; rw [b2 0 0 1 (by omega)]; exact a1.1) (by simp (disch := omega) only [up_s, up_k, up_j, up_i]; rw [b2 0 0 3 (by omega)]; exact a1.2.2.1)
      refine k6 _ _ _ _ _ _ hR2 (by simp (disch := omega) only [up_s, up_k, up_j, up_i]; exact e6) (by simp (disch := omega) only [up_s, up_k, up_j, up_i]; rw [b2 43 cm 0 (by omega), a3 43 cm 0 (by omega)]; exact hk) fun ι3 c1 c2 c3 => ?_
      refine h ι3 c1 (fun j j0 j1 => ?_) (fun e => ⟨?_, c2 e⟩) ((hF.wide fun t i j q => by grind).trans (c3.wide fun t i j q => by grind))
      · rw [c3 52 0 j (by omega)]
        simp (disch := omega) only [up_s, up_k, up_j, up_i]
        rw [b1]
        exact nt_ext hpc (by omega) (fun j a b => by rw [a3 52 0 j (by omega)]; exact hP j a b) j j0 j1
      · rw [c3 44 cm 0 (by omega)]; simp (disch := omega) only [up_s, up_k, up_j, up_i]
    · intro ι N H hR h3 hk hP hz h hh
      refine i7 ι _ _ hR (fun _ ι1 a1 a2 => ?_) (fun e => absurd hr e)
      refine m_tell (pc := pc) (by omega) (by simp (disch := omega) only [up_s, up_k, up_j, up_i]; rw [a2 13 0 19 (by omega)]; exact h3) hpc fun ι2 b1 b2 => ?_
      have hF : Fr (fun t i j => gR t i j ∨ t = 76 ∨ t = 13 ∧ j = 29) ι ι2 := ((((a2.wide fun t i j q => by grind) : Fr (fun t i j => gR t i j ∨ t = 76 ∨ t = 13 ∧ j = 29) ι ι1).u (by omega)).trans (b2.wide fun t i j q => by grind))
      have eF : ι2 13 0 29 = tr := by rw [b2 13 0 29 (by omega)]; simp (disch := omega) only [up_s, up_k, up_j, up_i]
      have eK : ι2 78 0 0 = kd := by rw [hF 78 0 0 (by omega)]; exact hk
      have hP2 : PaM ι2 (nt PA pc 5 tr) := fun j j0 j1 => by
        rw [b1]
        exact nt_ext hpc (by omega) (fun j a b => by simp (disch := omega) only [up_s, up_k, up_j, up_i]; rw [a2 76 0 j (by omega)]; exact hP j a b) j j0 j1
      have hR2 : mR ι2 β lim p1 := hR.fr hF (fun j => by omega) (by rw [b2 13 0 16 (by omega)]; simp (disch := omega) only [up_s, up_k, up_j, up_i]; exact a1.1)
      have hz2 : ∀ j, 0 ≤ j → j < 768 → ι2 83 0 j = 0 := fun j a b => by rw [hF 83 0 j (by omega)]; exact hz j a b
      show if ι2 13 0 29 ≤ (1 : Int) then N ι2 else _
      rw [eF, eK]
      refine bif_i (fun q => ?_) (fun q => ⟨by omega, by omega, ?_⟩)
      · obtain ⟨x1, x2, x3⟩ := k5 (by omega)
        rw [x1] at h
        exact h x2 ι2 hR2 hP2 eF (fun j a b => by rw [x3 j a b]; exact hz2 j a b) (hF.wide fun t i j q => by grind)
      · refine k7 (by omega) ι2 _ _ hR2 hz2 (fun e ι3 c1 c2 c3 => ?_) (fun e ι3 c1 c2 c3 => ?_)
        · exact h e ι3 c1 (hP2.fr c3 (fun j => by omega)) (by rw [c3 13 0 29 (by omega)]; exact eF) c2 ((hF.wide fun t i j q => by grind).trans (c3.wide fun t i j q => by grind))
        · exact hh e ι3 c1 c2 (hP2.fr c3 (fun j => by omega)) ((hF.wide fun t i j q => by grind).trans (c3.wide fun t i j q => by grind))
  · refine ⟨p1, r1, 1, fun _ => 0, PA, i1, i2, by omega, fun e => absurd e hr, Or.inl rfl, ?_, ?_⟩
    · intro ι K H hR h3 h6 hk hP h
      refine e_O_readTrees_46_0 (i6 ι _ _ hR fun ι1 x a1 a2 a3 => ?_)
      refine s_fine (fun e => absurd (a1.2.2.1.symm.trans e) hr) (fun _ => bif_t rfl ?_)
      exact h ι1 a1 (hP.fr a3 (fun j => by omega)) (fun e => absurd e hr) (a3.wide fun t i j q => by grind)
    · intro ι N H hR h3 hk hP hz h hh
      exact i7 ι _ _ hR (fun e => absurd e hr) (fun _ ι1 a1 a2 a3 => hh hr ι1 a1 a2 (hP.fr a3 (fun j => by omega)) (a3.wide fun t i j q => by grind))
theorem s_trees46_err {ι : bm_S} {K : bm_S → Prop} {H : Nat × Int → bm_S → Prop} {q : Int} (hr : ι 0 0 3 ≠ 0) (h : K ι) : bC sc 83 [br 8 0, bi q] ι (bk0 K H) := e_O_readTrees_46_0 (s_howMany_err hr (s_fine (fun e => absurd e hr) (fun _ => bif_t rfl h)))
theorem j_trees47 (hw : wfβ β lim) {kd : Int} (hkd : 1 ≤ kd ∧ kd ≤ 12) (pc cm : Int) (hpc : 0 ≤ pc) (PA : Int → Int) (p : Int) (hp0 : 0 ≤ p) (hp1 : p ≤ lim) :
    ∃ (p' r tr : Int) (M' PA' : Int → Int), p ≤ p' ∧ p' ≤ lim ∧ (r = 0 ∨ 0 < r ∧ r < 18) ∧ (r = 0 → (1 ≤ tr ∧ tr ≤ 12) ∧ (∀ j, 0 ≤ j → j < 48 → 0 ≤ M' j ∧ M' j < tr) ∧ PA' = nt PA pc 6 tr) ∧ (PA' = PA ∨ ∃ v, PA' = nt PA pc 6 v) ∧
    (∀ (ι : bm_S) (K : bm_S → Prop) (H : Nat × Int → bm_S → Prop), cR ι β lim p 0 → ι 8 0 3 = pc → ι 8 0 6 = cm → ι 43 cm 2 = kd → PaC ι PA → (∀ ι' : bm_S, cR ι' β lim p' r → PaC ι' PA' → (r = 0 → ι' 44 cm 1 = tr ∧ ∀ j, 0 ≤ j → j < 48 → ι' 47 cm j = M' j) → Fr (fTr47 cm) ι ι' → K ι') → bC sc 83 [br 8 0, bi 1] ι (bk0 K H)) ∧
    (∀ (ι : bm_S) (N : bm_S → Prop) (H : Nat × Int → bm_S → Prop), mR ι β lim p → ι 13 0 19 = pc → ι 78 0 2 = kd → PaM ι PA → (∀ j, 0 ≤ j → j < 48 → ι 84 0 j = 0) → (r = 0 → ∀ ι' : bm_S, mR ι' β lim p' → PaM ι' PA' → ι' 13 0 30 = tr → (∀ j, 0 ≤ j → j < 48 → ι' 84 0 j = M' j) → Fr gTr84 ι ι' → N ι') → (r ≠ 0 → ∀ ι' : bm_S, mR ι' β lim p' → ι' 12 0 6 = r → PaM ι' PA' → Fr gTr84 ι ι' → H (12, 0) ι') →
      bC sc 190 [br 13 0] ι (bk1 (fun r1 ι1 => bC sc 185 [br 13 0, bi 6, bi r1] (up ι1 13 0 30 r1) (bk0 (fun ι2 => if ι2 13 0 30 ≤ (1 : Int) then N ι2 else (0 ≤ (2 : Int) ∧ (2 : Int) < (3 : Int)) ∧ (bm_rg (4 * ι2 78 0 2)) ∧ bC sc 196 [br 13 0, br 84 0, bi (4 * ι2 78 0 2), bi (ι2 13 0 30)] ι2 (bk0 N H)) H)) H)) := by
  obtain ⟨p1, r1, tr, i1, i2, i3, i4, i5, i6, i7⟩ := j_howMany (sc := sc) hw p hp0 hp1
  by_cases hr : r1 = 0
  · have htr := i5 hr
    obtain ⟨p2, r2, M, k1, k2, k3, k4, k5, k6, k7⟩ := j_map47 (sc := sc) hw hkd (tr := tr) (by omega) cm p1 (by omega) i2
    refine ⟨p2, r2, tr, M, nt PA pc 6 tr, by omega, k2, k3, fun _ => ⟨by omega, k4, rfl⟩, Or.inr ⟨tr, rfl⟩, ?_, ?_⟩
    · intro ι K H hR h3 h6 hk hP h
      refine e_O_readTrees_47_0 (i6 ι _ _ hR fun ι1 x a1 a2 a3 => ?_)
      rw [a2 hr]
      rw [hr] at a1
      refine s_fine (fun _ => bif_f (by omega) ⟨by omega, s_note (pc := pc) (by omega) (by rw [a3 8 0 3 (by omega)]; exact h3) hpc fun ι2 b1 b2 => ⟨rfl, by omega, rfl, e_L_mapOf_0 ?_⟩⟩) (fun e => absurd a1.2.2.1 e)
      have e6 : ι2 8 0 6 = cm := by rw [b2 8 0 6 (by omega), a3 8 0 6 (by omega)]; exact h6
      rw [e6]
      refine bif_f (by omega) ?_
      have hF : Fr (fun t i j => fR t i j ∨ t = 52 ∨ t = 44 ∧ i = cm ∧ j = 1) ι (up ι2 44 cm 1 tr) := (((a3.wide fun t i j q => by grind).trans (b2.wide fun t i j q => by grind)).u (by omega))
      have hR2 : cR (up ι2 44 cm 1 tr) β lim p1 0 := hR.fr hF (fun j => by omega) (by simp (disch := omega) only [up_s, up_k, up_j, up_i]; rw [b2 0 0 1 (by omega)]; exact a1.1) (by simp (disch := omega) only [up_s, up_k, up_j, up_i]; rw [b2 0 0 3 (by omega)]; exact a1.2.2.1)
      refine k6 _ _ _ _ _ _ hR2 (by simp (disch := omega) only [up_s, up_k, up_j, up_i]; exact e6) (by simp (disch := omega) only [up_s, up_k, up_j, up_i]; rw [b2 43 cm 2 (by omega), a3 43 cm 2 (by omega)]; exact hk) fun ι3 c1 c2 c3 => ?_
      refine h ι3 c1 (fun j j0 j1 => ?_) (fun e => ⟨?_, c2 e⟩) ((hF.wide fun t i j q => by grind).trans (c3.wide fun t i j q => by grind))
      · rw [c3 52 0 j (by omega)]
        simp (disch := omega) only [up_s, up_k, up_j, up_i]
        rw [b1]
        exact nt_ext hpc (by omega) (fun j a b => by rw [a3 52 0 j (by omega)]; exact hP j a b) j j0 j1
      · rw [c3 44 cm 1 (by omega)]; simp (disch := omega) only [up_s, up_k, up_j, up_i]
    · intro ι N H hR h3 hk hP hz h hh
      refine i7 ι _ _ hR (fun _ ι1 a1 a2 => ?_) (fun e => absurd hr e)
      refine m_tell (pc := pc) (by omega) (by simp (disch := omega) only [up_s, up_k, up_j, up_i]; rw [a2 13 0 19 (by omega)]; exact h3) hpc fun ι2 b1 b2 => ?_
      have hF : Fr (fun t i j => gR t i j ∨ t = 76 ∨ t = 13 ∧ j = 30) ι ι2 := ((((a2.wide fun t i j q => by grind) : Fr (fun t i j => gR t i j ∨ t = 76 ∨ t = 13 ∧ j = 30) ι ι1).u (by omega)).trans (b2.wide fun t i j q => by grind))
      have eF : ι2 13 0 30 = tr := by rw [b2 13 0 30 (by omega)]; simp (disch := omega) only [up_s, up_k, up_j, up_i]
      have eK : ι2 78 0 2 = kd := by rw [hF 78 0 2 (by omega)]; exact hk
      have hP2 : PaM ι2 (nt PA pc 6 tr) := fun j j0 j1 => by
        rw [b1]
        exact nt_ext hpc (by omega) (fun j a b => by simp (disch := omega) only [up_s, up_k, up_j, up_i]; rw [a2 76 0 j (by omega)]; exact hP j a b) j j0 j1
      have hR2 : mR ι2 β lim p1 := hR.fr hF (fun j => by omega) (by rw [b2 13 0 16 (by omega)]; simp (disch := omega) only [up_s, up_k, up_j, up_i]; exact a1.1)
      have hz2 : ∀ j, 0 ≤ j → j < 48 → ι2 84 0 j = 0 := fun j a b => by rw [hF 84 0 j (by omega)]; exact hz j a b
      show if ι2 13 0 30 ≤ (1 : Int) then N ι2 else _
      rw [eF, eK]
      refine bif_i (fun q => ?_) (fun q => ⟨by omega, by omega, ?_⟩)
      · obtain ⟨x1, x2, x3⟩ := k5 (by omega)
        rw [x1] at h
        exact h x2 ι2 hR2 hP2 eF (fun j a b => by rw [x3 j a b]; exact hz2 j a b) (hF.wide fun t i j q => by grind)
      · refine k7 (by omega) ι2 _ _ hR2 hz2 (fun e ι3 c1 c2 c3 => ?_) (fun e ι3 c1 c2 c3 => ?_)
        · exact h e ι3 c1 (hP2.fr c3 (fun j => by omega)) (by rw [c3 13 0 30 (by omega)]; exact eF) c2 ((hF.wide fun t i j q => by grind).trans (c3.wide fun t i j q => by grind))
        · exact hh e ι3 c1 c2 (hP2.fr c3 (fun j => by omega)) ((hF.wide fun t i j q => by grind).trans (c3.wide fun t i j q => by grind))
  · refine ⟨p1, r1, 1, fun _ => 0, PA, i1, i2, by omega, fun e => absurd e hr, Or.inl rfl, ?_, ?_⟩
    · intro ι K H hR h3 h6 hk hP h
      refine e_O_readTrees_47_0 (i6 ι _ _ hR fun ι1 x a1 a2 a3 => ?_)
      refine s_fine (fun e => absurd (a1.2.2.1.symm.trans e) hr) (fun _ => bif_t rfl ?_)
      exact h ι1 a1 (hP.fr a3 (fun j => by omega)) (fun e => absurd e hr) (a3.wide fun t i j q => by grind)
    · intro ι N H hR h3 hk hP hz h hh
      exact i7 ι _ _ hR (fun e => absurd e hr) (fun _ ι1 a1 a2 a3 => hh hr ι1 a1 a2 (hP.fr a3 (fun j => by omega)) (a3.wide fun t i j q => by grind))
theorem s_trees47_err {ι : bm_S} {K : bm_S → Prop} {H : Nat × Int → bm_S → Prop} {q : Int} (hr : ι 0 0 3 ≠ 0) (h : K ι) : bC sc 83 [br 8 0, bi q] ι (bk0 K H) := e_O_readTrees_47_0 (s_howMany_err hr (s_fine (fun e => absurd e hr) (fun _ => bif_t rfl h)))
end Trees
