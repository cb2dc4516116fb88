/-! maps: both alike -/
section MapRead
variable {sc : bm_Sc} {β : Int → Int} {lim : Int}

abbrev fM46 (cm : Int) (t : Nat) (i j : Int) : Prop := fR t i j ∨ t = 46 ∧ i = cm ∨ t = 53 ∨ fT0 72 t i j
abbrev gM83 (t : Nat) (i j : Int) : Prop := gR t i j ∨ t = 83 ∨ t = 89 ∨ gT 17880 28 t i j
theorem s_mapB46_err {ι : bm_S} {K : bm_S → Prop} {H : Nat × Int → bm_S → Prop} {cm n tr rn : Int} (hr : ι 0 0 3 ≠ 0) (h : ∀ ι' : bm_S, Fr (fT0 72) ι ι' → K ι') : bC sc 26 [br 4 0, br 3 72, bi (tr + rn)] ι (bk0 (fun ι5 => bC sc 84 [br 8 0, br 46 cm, bi n, bi rn] ι5 (bk0 (fun ι6 => bC sc 4 [br 0 0, bi 1] ι6 (bk1 (fun r7 ι7 => if r7 = (1 : Int) then bC sc 85 [br 8 0, br 46 cm, bi n] ι7 (bk0 (fun ι8 => bk0 K H (.inl none) ι8) (bq (bk0 K H))) else bk0 K H (.inl none) ι7) (bq (bk0 K H)))) (bq (bk0 K H)))) (bq (bk0 K H))) := by
  refine s_tell_err hr fun ι1 a1 => ?_
  have hr1 : ι1 0 0 3 ≠ 0 := by rw [a1 0 0 3 (by omega)]; exact hr
  exact e_O_fillMap_46_0 (s_fill46_err hr1 (s_number_bad hr1 (bif_f (by omega) (h ι1 a1))))
theorem j_mapB46 (hw : wfβ β lim) {n tr rn : Int} (hn : 0 ≤ n ∧ n ≤ 768) (htr : 2 ≤ tr ∧ tr ≤ 12) (hrn : 0 ≤ rn ∧ rn ≤ 16) (cm p : Int) (hp0 : 0 ≤ p) (hp1 : p ≤ lim) :
    ∃ (p' r : Int) (M' : Int → Int), p ≤ p' ∧ p' ≤ lim ∧ (r = 0 ∨ 0 < r ∧ r < 18) ∧ (∀ j, 0 ≤ j → j < 768 → 0 ≤ M' j ∧ M' j < tr) ∧
    (∀ (ι : bm_S) (K : bm_S → Prop) (H : Nat × Int → bm_S → Prop), cR ι β lim p 0 → (∀ j, 0 ≤ j → j < 768 → ι 46 cm j = 0) → (∀ ι' : bm_S, cR ι' β lim p' r → (r = 0 → ∀ j, 0 ≤ j → j < 768 → ι' 46 cm j = M' j) → Fr (fM46 cm) ι ι' → K ι') → bC sc 26 [br 4 0, br 3 72, bi (tr + rn)] ι (bk0 (fun ι5 => bC sc 84 [br 8 0, br 46 cm, bi n, bi rn] ι5 (bk0 (fun ι6 => bC sc 4 [br 0 0, bi 1] ι6 (bk1 (fun r7 ι7 => if r7 = (1 : Int) then bC sc 85 [br 8 0, br 46 cm, bi n] ι7 (bk0 (fun ι8 => bk0 K H (.inl none) ι8) (bq (bk0 K H))) else bk0 K H (.inl none) ι7) (bq (bk0 K H)))) (bq (bk0 K H)))) (bq (bk0 K H)))) ∧
    (∀ (ι : bm_S) (K : bm_S → Prop) (H : Nat × Int → bm_S → Prop), mR ι β lim p → (∀ j, 0 ≤ j → j < 768 → ι 83 0 j = 0) → (r = 0 → ∀ ι' : bm_S, mR ι' β lim p' → (∀ j, 0 ≤ j → j < 768 → ι' 83 0 j = M' j) → Fr gM83 ι ι' → K ι') → (r ≠ 0 → ∀ ι' : bm_S, mR ι' β lim p' → ι' 12 0 6 = r → Fr gM83 ι ι' → H (12, 0) ι') → bC sc 178 [br 13 0, bi 17880, bi (tr + rn)] ι (bk0 (fun ι3 => bW sc 196 34 [br 13 0, br 83 0, bi n, bi tr, bi rn, bi 0, bu, bu, bu] [] ι3 (bk0 K H)) (bq (bk0 K H)))) := by
  have w1 := hw.1
  have hcast : (((tr + rn).toNat : Nat) : Int) = tr + rn := by omega
  have hL72 : bm_L 22 72 = 28 := rfl
  have hz : ∀ j : Int, 0 ≤ j → j < 768 → 0 ≤ (fun _ : Int => (0 : Int)) j ∧ (fun _ : Int => (0 : Int)) j < tr := fun j _ _ => ⟨show (0 : Int) ≤ 0 by omega, show (0 : Int) < tr by omega⟩
  obtain ⟨p1, r1, lm, LM, i1, i2, i3, i4, i5, i6⟩ := j_code (sc := sc) (a := (tr + rn).toNat) hw (by omega) p hp0 hp1
  rw [hcast] at i5 i6
  by_cases hr1 : r1 = 0
  · obtain ⟨hO, -⟩ := i4 hr1
    obtain ⟨p2, r2, M, t1, t2, t3, t4, t5, t6, t7⟩ := j_fill46 (sc := sc) hw hn htr hrn hO cm n.toNat 0 0 p1 (fun _ => 0) (by omega) (by omega) (by omega) (by omega) (by omega) (by omega) i2 hz (fun j _ _ => rfl)
    -- both behind the filling
    have goC : ∀ (ι : bm_S) (K : bm_S → Prop) (H : Nat × Int → bm_S → Prop), cR ι β lim p 0 → (∀ j, 0 ≤ j → j < 768 → ι 46 cm j = 0) → (∀ ι' : bm_S, cR ι' β lim p2 r2 → (r2 = 0 → ∀ j, 0 ≤ j → j < 768 → ι' 46 cm j = M j) → Fr (fM46 cm) ι ι' → bC sc 4 [br 0 0, bi 1] ι' (bk1 (fun r7 ι7 => if r7 = (1 : Int) then bC sc 85 [br 8 0, br 46 cm, bi n] ι7 (bk0 (fun ι8 => bk0 K H (.inl none) ι8) (bq (bk0 K H))) else bk0 K H (.inl none) ι7) (bq (bk0 K H)))) → bC sc 26 [br 4 0, br 3 72, bi (tr + rn)] ι (bk0 (fun ι5 => bC sc 84 [br 8 0, br 46 cm, bi n, bi rn] ι5 (bk0 (fun ι6 => bC sc 4 [br 0 0, bi 1] ι6 (bk1 (fun r7 ι7 => if r7 = (1 : Int) then bC sc 85 [br 8 0, br 46 cm, bi n] ι7 (bk0 (fun ι8 => bk0 K H (.inl none) ι8) (bq (bk0 K H))) else bk0 K H (.inl none) ι7) (bq (bk0 K H)))) (bq (bk0 K H)))) (bq (bk0 K H))) := by
      intro ι K H hR eT h
      refine i5 ι 72 _ _ (by omega) (by omega) hR fun ι1 a1 a2 a3 => ?_
      rw [hr1] at a1
      refine e_O_fillMap_46_0 (t6 ι1 _ _ _ a1 (a2 hr1) (fun j a b => by rw [a3 46 cm j (by omega)]; exact eT j a b) fun ι2 b1 b2 b3 => ?_)
      exact h ι2 b1 b2 ((a3.wide fun t i j q => by grind).trans (b3.wide fun t i j q => by grind))
    have goM : ∀ (ι : bm_S) (K : bm_S → Prop) (H : Nat × Int → bm_S → Prop), mR ι β lim p → (∀ j, 0 ≤ j → j < 768 → ι 83 0 j = 0) → (r2 = 0 → ∀ (ι' : bm_S) (v6 v7 v8 : bm_V), mR ι' β lim p2 → (∀ j, 0 ≤ j → j < 768 → ι' 83 0 j = M j) → Fr gM83 ι ι' → bW sc 196 34 [br 13 0, br 83 0, bi n, bi tr, bi rn, bi n, v6, v7, v8] [] ι' (bk0 K H)) → (r2 ≠ 0 → ∀ ι' : bm_S, mR ι' β lim p2 → ι' 12 0 6 = r2 → Fr gM83 ι ι' → H (12, 0) ι') → bC sc 178 [br 13 0, bi 17880, bi (tr + rn)] ι (bk0 (fun ι3 => bW sc 196 34 [br 13 0, br 83 0, bi n, bi tr, bi rn, bi 0, bu, bu, bu] [] ι3 (bk0 K H)) (bq (bk0 K H))) := by
      intro ι K H hR eT h hh
      refine i6 ι 17880 _ _ (by omega) (by omega) hR (fun _ ι1 a1 a2 a3 => ?_) (fun e => absurd hr1 e)
      have hF : Fr gM83 ι ι1 := a3.wide fun t i j q => by grind
      exact t7 ι1 _ _ _ K H a1 a2 (fun j a b => by rw [a3 83 0 j (by omega)]; exact eT j a b) (fun e ι' v6 v7 v8 g1 g2 g3 => h e ι' v6 v7 v8 g1 g2 (hF.trans (g3.wide fun t i j q => by grind))) (fun e ι' g1 g2 g3 => hh e ι' g1 g2 (hF.trans (g3.wide fun t i j q => by grind)))
    by_cases hr2 : r2 = 0
    · by_cases c1 : p2 = lim
      · refine ⟨lim, 1, fun _ => 0, by omega, by omega, by omega, hz, ?_, ?_⟩
        · intro ι K H hR eT h
          refine goC ι K H hR eT fun ι1 a1 a2 a3 => ?_
          rw [hr2, c1] at a1
          exact s_bit_end hw a1 fun ι2 b1 b2 => bif_f (by omega) (h ι2 b1 (fun e => by omega) (a3.trans (b2.wide fun t i j q => by grind)))
        · intro ι K H hR eT h hh
          refine goM ι K H hR eT (fun _ ι1 v6 v7 v8 a1 a2 a3 => ?_) (fun e => absurd hr2 e)
          rw [c1] at a1
          exact e_M_readMap_83_34 (bif_t (by omega) (m_bit_end' hw a1 fun ι2 b1 b2 b3 => hh (by omega) ι2 b1 b2 (a3.trans (b3.wide fun t i j q => by grind))))
      · by_cases d1 : β p2 = 1
        · refine ⟨p2 + 1, 0, un (fun j => j) M n.toNat 0, by omega, by omega, by omega, fun j a b => ?_, ?_, ?_⟩
          · by_cases q : j < n
            · exact un_rg (tr := tr) (n := n) n.toNat 0 _ M (by omega) (by omega) (fun j a b => t4 j a (by omega)) (fun j a b => ⟨a, b⟩) j a q
            · rw [un_out (n := n) n.toNat 0 _ M (by omega) j (by omega)]; exact t4 j a b
          · intro ι K H hR eT h
            refine goC ι K H hR eT fun ι1 a1 a2 a3 => ?_
            rw [hr2] at a1
            refine s_bit hw (by omega) a1 fun ι2 b1 b2 => bif_t d1 (e_O_undoFront_46_0 (s_un46_2 12 0 ι2 (by omega) (by omega) (fun j _ _ => by omega) fun ι3 c1 c2 => s_un46_23 (tr := tr) hn.2 htr.2 n.toNat 0 (fun j => j) M ι3 _ _ _ (by omega) (by omega) (fun j a b => t4 j a (by omega)) (fun j a b => ⟨a, b⟩) c1 (fun j a b => ?_) fun ι4 d1 d2 => ?_))
            · rw [c2 46 cm j (by omega), b2 46 cm j (by omega)]; exact a2 hr2 j a b
            · have hF : Fr (fM46 cm) ι2 ι4 := (c2.wide fun t i j q => by grind).trans (d2.wide fun t i j q => by grind)
              exact h ι4 (b1.fr hF (fun j => by omega) (by rw [d2 0 0 1 (by omega), c2 0 0 1 (by omega)]; exact b1.1) (by rw [d2 0 0 3 (by omega), c2 0 0 3 (by omega)]; exact b1.2.2.1)) (fun _ => d1) ((a3.trans (b2.wide fun t i j q => by grind)).trans hF)
          · intro ι K H hR eT h hh
            refine goM ι K H hR eT (fun _ ι1 v6 v7 v8 a1 a2 a3 => ?_) (fun e => absurd hr2 e)
            refine e_M_readMap_83_34 (bif_t (by omega) (m_bit' hw (by omega) a1 fun ι2 b1 b2 => bif_t d1 (m_un83_155 12 0 ι2 (by omega) (by omega) (fun j _ _ => by omega) fun ι3 w6 c1 c2 => m_un83_180 (tr := tr) hn.2 htr.2 n.toNat 0 (fun j => j) M ι3 _ _ _ (by omega) (by omega) (fun j a b => t4 j a (by omega)) (fun j a b => ⟨a, b⟩) c1 (fun j a b => ?_) fun ι4 d1 d2 => ?_)))
            · rw [c2 83 0 j (by omega), b2 83 0 j (by omega)]; exact a2 j a b
            · have hF : Fr gM83 ι2 ι4 := (c2.wide fun t i j q => by grind).trans (d2.wide fun t i j q => by grind)
              exact h rfl ι4 (b1.fr hF (fun j => by omega) (by rw [d2 13 0 16 (by omega), c2 13 0 16 (by omega)]; exact b1.1)) d1 ((a3.trans (b2.wide fun t i j q => by grind)).trans hF)
        · refine ⟨p2 + 1, 0, M, by omega, by omega, by omega, t4, ?_, ?_⟩
          · intro ι K H hR eT h
            refine goC ι K H hR eT fun ι1 a1 a2 a3 => ?_
            rw [hr2] at a1
            exact s_bit hw (by omega) a1 fun ι2 b1 b2 => bif_f d1 (h ι2 b1 (fun _ j a b => by rw [b2 46 cm j (by omega)]; exact a2 hr2 j a b) (a3.trans (b2.wide fun t i j q => by grind)))
          · intro ι K H hR eT h hh
            refine goM ι K H hR eT (fun _ ι1 v6 v7 v8 a1 a2 a3 => ?_) (fun e => absurd hr2 e)
            exact e_M_readMap_83_34 (bif_t (by omega) (m_bit' hw (by omega) a1 fun ι2 b1 b2 => bif_f d1 (h rfl ι2 b1 (fun j a b => by rw [b2 83 0 j (by omega)]; exact a2 j a b) (a3.trans (b2.wide fun t i j q => by grind)))))
    · refine ⟨p2, r2, fun _ => 0, by omega, t2, t3, hz, ?_, ?_⟩
      · intro ι K H hR eT h
        refine goC ι K H hR eT fun ι1 a1 a2 a3 => s_number_bad (by rw [a1.2.2.1]; exact hr2) (bif_f (by omega) (h ι1 a1 (fun e => absurd e hr2) a3))
      · intro ι K H hR eT h hh
        exact goM ι K H hR eT (fun e => absurd e hr2) hh
  · refine ⟨p1, r1, fun _ => 0, i1, i2, i3, hz, ?_, ?_⟩
    · intro ι K H hR eT h
      refine i5 ι 72 _ _ (by omega) (by omega) hR fun ι1 a1 a2 a3 => ?_
      have hb : ι1 0 0 3 ≠ 0 := by rw [a1.2.2.1]; exact hr1
      exact e_O_fillMap_46_0 (s_fill46_err hb (s_number_bad hb (bif_f (by omega) (h ι1 a1 (fun e => absurd e hr1) (a3.wide fun t i j q => by grind)))))
    · intro ι K H hR eT h hh
      exact i6 ι 17880 _ _ (by omega) (by omega) hR (fun e => absurd e hr1) (fun _ ι1 a1 a2 a3 => hh hr1 ι1 a1 a2 (a3.wide fun t i j q => by grind))
theorem j_map46 (hw : wfβ β lim) {kd tr : Int} (hkd : 1 ≤ kd ∧ kd ≤ 12) (htr : 1 ≤ tr ∧ tr ≤ 12) (cm p : Int) (hp0 : 0 ≤ p) (hp1 : p ≤ lim) :
    ∃ (p' r : Int) (M' : Int → Int), p ≤ p' ∧ p' ≤ lim ∧ (r = 0 ∨ 0 < r ∧ r < 18) ∧ (∀ j, 0 ≤ j → j < 768 → 0 ≤ M' j ∧ M' j < tr) ∧ (tr = 1 → p' = p ∧ r = 0 ∧ ∀ j, 0 ≤ j → j < 768 → M' j = 0) ∧
    (∀ (ι : bm_S) (v3 v4 v5 : bm_V) (K : bm_S → Prop) (H : Nat × Int → bm_S → Prop), cR ι β lim p 0 → ι 8 0 6 = cm → ι 43 cm 0 = kd → (∀ ι' : bm_S, cR ι' β lim p' r → (r = 0 → ∀ j, 0 ≤ j → j < 768 → ι' 46 cm j = M' j) → Fr (fM46 cm) ι ι' → K ι') → bW sc 83 42 [br 8 0, bi 0, bi tr, v3, v4, v5] [br 46 cm] ι (bk0 K H)) ∧
    (1 < tr → ∀ (ι : bm_S) (K : bm_S → Prop) (H : Nat × Int → bm_S → Prop), mR ι β lim p → (∀ j, 0 ≤ j → j < 768 → ι 83 0 j = 0) → (r = 0 → ∀ ι' : bm_S, mR ι' β lim p' → (∀ j, 0 ≤ j → j < 768 → ι' 83 0 j = M' j) → Fr gM83 ι ι' → K ι') → (r ≠ 0 → ∀ ι' : bm_S, mR ι' β lim p' → ι' 12 0 6 = r → Fr gM83 ι ι' → H (12, 0) ι') → bC sc 196 [br 13 0, br 83 0, bi (64 * kd), bi tr] ι (bk0 K H)) := by
  have w1 := hw.1
  have hmin : min (64 * kd) 768 = 64 * kd := by omega
  have hz : ∀ j : Int, 0 ≤ j → j < 768 → 0 ≤ (fun _ : Int => (0 : Int)) j ∧ (fun _ : Int => (0 : Int)) j < tr := fun j _ _ => ⟨show (0 : Int) ≤ 0 by omega, show (0 : Int) < tr by omega⟩
  by_cases h1 : tr = 1
  · refine ⟨p, 0, fun _ => 0, by omega, hp1, Or.inl rfl, hz, fun _ => ⟨rfl, rfl, fun j _ _ => rfl⟩, ?_, fun e => by omega⟩
    intro ι v3 v4 v5 K H hR h6 hk h
    refine e_O_readTrees_46_42 ⟨rfl, ?_⟩
    rw [h6]
    refine e_L_mapSize_0 (bif_t rfl ⟨by omega, by omega, ?_⟩)
    refine s_fill_46 fun ι1 a1 a2 => bif_t (by omega) (h ι1 (hR.fr a2 (fun j => by omega) (by rw [a2 0 0 1 (by omega)]; exact hR.1) (by rw [a2 0 0 3 (by omega)]; exact hR.2.2.1)) (fun _ j a b => a1 j a b) (a2.wide fun t i j q => by grind))
  · have h2 : 2 ≤ tr ∧ tr ≤ 12 := by omega
    by_cases c1 : p = lim
    · subst c1
      refine ⟨p, 1, fun _ => 0, by omega, by omega, by omega, hz, fun e => absurd e h1, ?_, ?_⟩
      · intro ι v3 v4 v5 K H hR h6 hk h
        refine e_O_readTrees_46_42 ⟨rfl, ?_⟩
        rw [h6]
        refine e_L_mapSize_0 (bif_t rfl ⟨by omega, by omega, ?_⟩)
        refine s_fill_46 fun ι1 a1 a2 => bif_f (by omega) (s_bit_end hw (hR.fr a2 (fun j => by omega) (by rw [a2 0 0 1 (by omega)]; exact hR.1) (by rw [a2 0 0 3 (by omega)]; exact hR.2.2.1)) fun ι2 b1 b2 => bif_t rfl ⟨by omega, s_mapB46_err (rn := 0) (by rw [b1.2.2.1]; omega) fun ι3 c1 => ?_⟩)
        exact h ι3 (b1.fr c1 (fun j => by omega) (by rw [c1 0 0 1 (by omega)]; exact b1.1) (by rw [c1 0 0 3 (by omega)]; exact b1.2.2.1)) (fun e => by omega) (((a2.wide fun t i j q => by grind).trans (b2.wide fun t i j q => by grind)).trans (c1.wide fun t i j q => by grind))
      · intro _ ι K H hR eT h hh
        exact e_M_readMap_83_0 (m_bit_end' hw hR fun ι1 a1 a2 a3 => hh (by omega) ι1 a1 a2 (a3.wide fun t i j q => by grind))
    · by_cases d1 : β p = 0
      · obtain ⟨p', r, M', t1, t2, t3, t4, t5, t6⟩ := j_mapB46 (sc := sc) (n := 64 * kd) (tr := tr) (rn := 0) hw (by omega) h2 (by omega) cm (p + 1) (by omega) (by omega)
        refine ⟨p', r, M', by omega, t2, t3, t4, fun e => absurd e h1, ?_, ?_⟩
        · intro ι v3 v4 v5 K H hR h6 hk h
          refine e_O_readTrees_46_42 ⟨rfl, ?_⟩
          rw [h6]
          refine e_L_mapSize_0 (bif_t rfl ⟨by omega, by omega, ?_⟩)
          rw [hk]
          refine s_fill_46 fun ι1 a1 a2 => bif_f (by omega) (s_bit hw (by omega) (hR.fr a2 (fun j => by omega) (by rw [a2 0 0 1 (by omega)]; exact hR.1) (by rw [a2 0 0 3 (by omega)]; exact hR.2.2.1)) fun ι2 b1 b2 => bif_t d1 ⟨by omega, ?_⟩)
          rw [hmin]
          exact t5 ι2 K H b1 (fun j a b => by rw [b2 46 cm j (by omega)]; exact a1 j a b) fun ι' g1 g2 g3 => h ι' g1 g2 (((a2.wide fun t i j q => by grind).trans (b2.wide fun t i j q => by grind)).trans g3)
        · intro _ ι K H hR eT h hh
          refine e_M_readMap_83_0 (m_bit' hw (by omega) hR fun ι1 a1 a2 => bif_t d1 ⟨by omega, ?_⟩)
          have hF : Fr gM83 ι ι1 := a2.wide fun t i j q => by grind
          exact t6 ι1 K H a1 (fun j a b => by rw [a2 83 0 j (by omega)]; exact eT j a b) (fun e ι' g1 g2 g3 => h e ι' g1 g2 (hF.trans g3)) (fun e ι' g1 g2 g3 => hh e ι' g1 g2 (hF.trans g3))
      · have hv4 := nm_rg (p := p + 1) w1 4
        have e16 : bm_p2 ((4 : Nat) : Int) = 16 := rfl
        have e4 : nm β (p + 1) (Int.toNat 4) = nm β (p + 1) 4 := rfl
        by_cases c2 : p + 1 + 4 ≤ lim
        · obtain ⟨p', r, M', t1, t2, t3, t4, t5, t6⟩ := j_mapB46 (sc := sc) (n := 64 * kd) (tr := tr) (rn := nm β (p + 1) (Int.toNat 4) + 1) hw (by omega) h2 (by omega) cm (p + 1 + 4) (by omega) c2
          refine ⟨p', r, M', by omega, t2, t3, t4, fun e => absurd e h1, ?_, ?_⟩
          · intro ι v3 v4 v5 K H hR h6 hk h
            refine e_O_readTrees_46_42 ⟨rfl, ?_⟩
            rw [h6]
            refine e_L_mapSize_0 (bif_t rfl ⟨by omega, by omega, ?_⟩)
            rw [hk]
            refine s_fill_46 fun ι1 a1 a2 => bif_f (by omega) (s_bit hw (by omega) (hR.fr a2 (fun j => by omega) (by rw [a2 0 0 1 (by omega)]; exact hR.1) (by rw [a2 0 0 3 (by omega)]; exact hR.2.2.1)) fun ι2 b1 b2 => bif_f d1 (s_number hw (by omega) (by omega) b1 ⟨by omega, by omega, ?_⟩))
            rw [hmin]
            have hF2 : Fr fR ι1 (up ι2 0 0 1 (p + 1 + 4)) := b2.u (by omega)
            exact t5 _ K H b1.to (fun j a b => by rw [hF2 46 cm j (by omega)]; exact a1 j a b) fun ι' g1 g2 g3 => h ι' g1 g2 (((a2.wide fun t i j q => by grind).trans (hF2.wide fun t i j q => by grind)).trans g3)
          · intro _ ι K H hR eT h hh
            refine e_M_readMap_83_0 (m_bit' hw (by omega) hR fun ι1 a1 a2 => bif_f d1 (m_number hw (by omega) (by omega) a1 ⟨by omega, by omega, ?_⟩))
            have hF1 : Fr gR ι (up ι1 13 0 16 (p + 1 + 4)) := a2.u (by omega)
            have hF : Fr gM83 ι (up ι1 13 0 16 (p + 1 + 4)) := hF1.wide fun t i j q => by grind
            exact t6 _ K H a1.to (fun j a b => by rw [hF1 83 0 j (by omega)]; exact eT j a b) (fun e ι' g1 g2 g3 => h e ι' g1 g2 (hF.trans g3)) (fun e ι' g1 g2 g3 => hh e ι' g1 g2 (hF.trans g3))
        · refine ⟨lim, 1, fun _ => 0, by omega, by omega, by omega, hz, fun e => absurd e h1, ?_, ?_⟩
          · intro ι v3 v4 v5 K H hR h6 hk h
            refine e_O_readTrees_46_42 ⟨rfl, ?_⟩
            rw [h6]
            refine e_L_mapSize_0 (bif_t rfl ⟨by omega, by omega, ?_⟩)
            refine s_fill_46 fun ι1 a1 a2 => bif_f (by omega) (s_bit hw (by omega) (hR.fr a2 (fun j => by omega) (by rw [a2 0 0 1 (by omega)]; exact hR.1) (by rw [a2 0 0 3 (by omega)]; exact hR.2.2.1)) fun ι2 b1 b2 => bif_f d1 (s_number_end hw (by omega) b1 ⟨by omega, by omega, s_mapB46_err (rn := 0 + 1) (by simp (disch := omega) only [up_s, up_k, up_j, up_i]; omega) fun ι3 c1 => ?_⟩))
            have hF2 : Fr (fM46 cm) ι (up (up ι2 0 0 1 lim) 0 0 3 1) := (((a2.wide fun t i j q => by grind).trans (b2.wide fun t i j q => by grind)).u (by omega)).u (by omega)
            have hF := hF2.trans (c1.wide (P' := fM46 cm) fun t i j q => by grind)
            exact h ι3 (hR.fr hF (fun j => by omega) (by rw [c1 0 0 1 (by omega)]; simp (disch := omega) only [up_s, up_k, up_j, up_i]) (by rw [c1 0 0 3 (by omega)]; simp (disch := omega) only [up_s, up_k, up_j, up_i])) (fun e => by omega) hF
          · intro _ ι K H hR eT h hh
            refine e_M_readMap_83_0 (m_bit' hw (by omega) hR fun ι1 a1 a2 => bif_f d1 (m_number_end hw (by omega) (by omega) a1 ?_))
            have hF1 : Fr gR ι (up (up ι1 13 0 16 lim) 12 0 6 1) := (a2.u (by omega)).u (by omega)
            exact hh (by omega) _ (hR.fr hF1 (fun j => by omega) (by simp (disch := omega) only [up_s, up_k, up_j, up_i])) (by simp (disch := omega) only [up_s, up_k, up_j, up_i]) (hF1.wide fun t i j q => by grind)

abbrev fM47 (cm : Int) (t : Nat) (i j : Int) : Prop := fR t i j ∨ t = 47 ∧ i = cm ∨ t = 53 ∨ fT0 72 t i j
abbrev gM84 (t : Nat) (i j : Int) : Prop := gR t i j ∨ t = 84 ∨ t = 89 ∨ gT 17880 28 t i j
theorem s_mapB47_err {ι : bm_S} {K : bm_S → Prop} {H : Nat × Int → bm_S → Prop} {cm n tr rn : Int} (hr : ι 0 0 3 ≠ 0) (h : ∀ ι' : bm_S, Fr (fT0 72) ι ι' → K ι') : bC sc 26 [br 4 0, br 3 72, bi (tr + rn)] ι (bk0 (fun ι5 => bC sc 84 [br 8 0, br 47 cm, bi n, bi rn] ι5 (bk0 (fun ι6 => bC sc 4 [br 0 0, bi 1] ι6 (bk1 (fun r7 ι7 => if r7 = (1 : Int) then bC sc 85 [br 8 0, br 47 cm, bi n] ι7 (bk0 (fun ι8 => bk0 K H (.inl none) ι8) (bq (bk0 K H))) else bk0 K H (.inl none) ι7) (bq (bk0 K H)))) (bq (bk0 K H)))) (bq (bk0 K H))) := by
  refine s_tell_err hr fun ι1 a1 => ?_
  have hr1 : ι1 0 0 3 ≠ 0 := by rw [a1 0 0 3 (by omega)]; exact hr
  exact e_O_fillMap_47_0 (s_fill47_err hr1 (s_number_bad hr1 (bif_f (by omega) (h ι1 a1))))
theorem j_mapB47 (hw : wfβ β lim) {n tr rn : Int} (hn : 0 ≤ n ∧ n ≤ 48) (htr : 2 ≤ tr ∧ tr ≤ 12) (hrn : 0 ≤ rn ∧ rn ≤ 16) (cm p : Int) (hp0 : 0 ≤ p) (hp1 : p ≤ lim) :
    ∃ (p' r : Int) (M' : Int → Int), p ≤ p' ∧ p' ≤ lim ∧ (r = 0 ∨ 0 < r ∧ r < 18) ∧ (∀ j, 0 ≤ j → j < 48 → 0 ≤ M' j ∧ M' j < tr) ∧
    (∀ (ι : bm_S) (K : bm_S → Prop) (H : Nat × Int → bm_S → Prop), cR ι β lim p 0 → (∀ j, 0 ≤ j → j < 48 → ι 47 cm j = 0) → (∀ ι' : bm_S, cR ι' β lim p' r → (r = 0 → ∀ j, 0 ≤ j → j < 48 → ι' 47 cm j = M' j) → Fr (fM47 cm) ι ι' → K ι') → bC sc 26 [br 4 0, br 3 72, bi (tr + rn)] ι (bk0 (fun ι5 => bC sc 84 [br 8 0, br 47 cm, bi n, bi rn] ι5 (bk0 (fun ι6 => bC sc 4 [br 0 0, bi 1] ι6 (bk1 (fun r7 ι7 => if r7 = (1 : Int) then bC sc 85 [br 8 0, br 47 cm, bi n] ι7 (bk0 (fun ι8 => bk0 K H (.inl none) ι8) (bq (bk0 K H))) else bk0 K H (.inl none) ι7) (bq (bk0 K H)))) (bq (bk0 K H)))) (bq (bk0 K H)))) ∧
    (∀ (ι : bm_S) (K : bm_S → Prop) (H : Nat × Int → bm_S → Prop), mR ι β lim p → (∀ j, 0 ≤ j → j < 48 → ι 84 0 j = 0) → (r = 0 → ∀ ι' : bm_S, mR ι' β lim p' → (∀ j, 0 ≤ j → j < 48 → ι' 84 0 j = M' j) → Fr gM84 ι ι' → K ι') → (r ≠ 0 → ∀ ι' : bm_S, mR ι' β lim p' → ι' 12 0 6 = r → Fr gM84 ι ι' → H (12, 0) ι') → bC sc 178 [br 13 0, bi 17880, bi (tr + rn)] ι (bk0 (fun ι3 => bW sc 196 34 [br 13 0, br 84 0, bi n, bi tr, bi rn, bi 0, bu, bu, bu] [] ι3 (bk0 K H)) (bq (bk0 K H)))) := by
  have w1 := hw.1
  have hcast : (((tr + rn).toNat : Nat) : Int) = tr + rn := by omega
  have hL72 : bm_L 22 72 = 28 := rfl
  have hz : ∀ j : Int, 0 ≤ j → j < 48 → 0 ≤ (fun _ : Int => (0 : Int)) j ∧ (fun _ : Int => (0 : Int)) j < tr := fun j _ _ => ⟨show (0 : Int) ≤ 0 by omega, show (0 : Int) < tr by omega⟩
  obtain ⟨p1, r1, lm, LM, i1, i2, i3, i4, i5, i6⟩ := j_code (sc := sc) (a := (tr + rn).toNat) hw (by omega) p hp0 hp1
  rw [hcast] at i5 i6
  by_cases hr1 : r1 = 0
  · obtain ⟨hO, -⟩ := i4 hr1
    obtain ⟨p2, r2, M, t1, t2, t3, t4, t5, t6, t7⟩ := j_fill47 (sc := sc) hw hn htr hrn hO cm n.toNat 0 0 p1 (fun _ => 0) (by omega) (by omega) (by omega) (by omega) (by omega) (by omega) i2 hz (fun j _ _ => rfl)
    -- both behind the filling
    have goC : ∀ (ι : bm_S) (K : bm_S → Prop) (H : Nat × Int → bm_S → Prop), cR ι β lim p 0 → (∀ j, 0 ≤ j → j < 48 → ι 47 cm j = 0) → (∀ ι' : bm_S, cR ι' β lim p2 r2 → (r2 = 0 → ∀ j, 0 ≤ j → j < 48 → ι' 47 cm j = M j) → Fr (fM47 cm) ι ι' → bC sc 4 [br 0 0, bi 1] ι' (bk1 (fun r7 ι7 => if r7 = (1 : Int) then bC sc 85 [br 8 0, br 47 cm, bi n] ι7 (bk0 (fun ι8 => bk0 K H (.inl none) ι8) (bq (bk0 K H))) else bk0 K H (.inl none) ι7) (bq (bk0 K H)))) → bC sc 26 [br 4 0, br 3 72, bi (tr + rn)] ι (bk0 (fun ι5 => bC sc 84 [br 8 0, br 47 cm, bi n, bi rn] ι5 (bk0 (fun ι6 => bC sc 4 [br 0 0, bi 1] ι6 (bk1 (fun r7 ι7 => if r7 = (1 : Int) then bC sc 85 [br 8 0, br 47 cm, bi n] ι7 (bk0 (fun ι8 => bk0 K H (.inl none) ι8) (bq (bk0 K H))) else bk0 K H (.inl none) ι7) (bq (bk0 K H)))) (bq (bk0 K H)))) (bq (bk0 K H))) := by
      intro ι K H hR eT h
      refine i5 ι 72 _ _ (by omega) (by omega) hR fun ι1 a1 a2 a3 => ?_
      rw [hr1] at a1
      refine e_O_fillMap_47_0 (t6 ι1 _ _ _ a1 (a2 hr1) (fun j a b => by rw [a3 47 cm j (by omega)]; exact eT j a b) fun ι2 b1 b2 b3 => ?_)
      exact h ι2 b1 b2 ((a3.wide fun t i j q => by grind).trans (b3.wide fun t i j q => by grind))
    have goM : ∀ (ι : bm_S) (K : bm_S → Prop) (H : Nat × Int → bm_S → Prop), mR ι β lim p → (∀ j, 0 ≤ j → j < 48 → ι 84 0 j = 0) → (r2 = 0 → ∀ (ι' : bm_S) (v6 v7 v8 : bm_V), mR ι' β lim p2 → (∀ j, 0 ≤ j → j < 48 → ι' 84 0 j = M j) → Fr gM84 ι ι' → bW sc 196 34 [br 13 0, br 84 0, bi n, bi tr, bi rn, bi n, v6, v7, v8] [] ι' (bk0 K H)) → (r2 ≠ 0 → ∀ ι' : bm_S, mR ι' β lim p2 → ι' 12 0 6 = r2 → Fr gM84 ι ι' → H (12, 0) ι') → bC sc 178 [br 13 0, bi 17880, bi (tr + rn)] ι (bk0 (fun ι3 => bW sc 196 34 [br 13 0, br 84 0, bi n, bi tr, bi rn, bi 0, bu, bu, bu] [] ι3 (bk0 K H)) (bq (bk0 K H))) := by
      intro ι K H hR eT h hh
      refine i6 ι 17880 _ _ (by omega) (by omega) hR (fun _ ι1 a1 a2 a3 => ?_) (fun e => absurd hr1 e)
      have hF : Fr gM84 ι ι1 := a3.wide fun t i j q => by grind
      exact t7 ι1 _ _ _ K H a1 a2 (fun j a b => by rw [a3 84 0 j (by omega)]; exact eT j a b) (fun e ι' v6 v7 v8 g1 g2 g3 => h e ι' v6 v7 v8 g1 g2 (hF.trans (g3.wide fun t i j q => by grind))) (fun e ι' g1 g2 g3 => hh e ι' g1 g2 (hF.trans (g3.wide fun t i j q => by grind)))
    by_cases hr2 : r2 = 0
    · by_cases c1 : p2 = lim
      · refine ⟨lim, 1, fun _ => 0, by omega, by omega, by omega, hz, ?_, ?_⟩
        · intro ι K H hR eT h
          refine goC ι K H hR eT fun ι1 a1 a2 a3 => ?_
          rw [hr2, c1] at a1
          exact s_bit_end hw a1 fun ι2 b1 b2 => bif_f (by omega) (h ι2 b1 (fun e => by omega) (a3.trans (b2.wide fun t i j q => by grind)))
        · intro ι K H hR eT h hh
          refine goM ι K H hR eT (fun _ ι1 v6 v7 v8 a1 a2 a3 => ?_) (fun e => absurd hr2 e)
          rw [c1] at a1
          exact e_M_readMap_84_34 (bif_t (by omega) (m_bit_end' hw a1 fun ι2 b1 b2 b3 => hh (by omega) ι2 b1 b2 (a3.trans (b3.wide fun t i j q => by grind))))
      · by_cases d1 : β p2 = 1
        · refine ⟨p2 + 1, 0, un (fun j => j) M n.toNat 0, by omega, by omega, by omega, fun j a b => ?_, ?_, ?_⟩
          · by_cases q : j < n
            · exact un_rg (tr := tr) (n := n) n.toNat 0 _ M (by omega) (by omega) (fun j a b => t4 j a (by omega)) (fun j a b => ⟨a, b⟩) j a q
            · rw [un_out (n := n) n.toNat 0 _ M (by omega) j (by omega)]; exact t4 j a b
          · intro ι K H hR eT h
            refine goC ι K H hR eT fun ι1 a1 a2 a3 => ?_
            rw [hr2] at a1
            refine s_bit hw (by omega) a1 fun ι2 b1 b2 => bif_t d1 (e_O_undoFront_47_0 (s_un47_2 12 0 ι2 (by omega) (by omega) (fun j _ _ => by omega) fun ι3 c1 c2 => s_un47_23 (tr := tr) hn.2 htr.2 n.toNat 0 (fun j => j) M ι3 _ _ _ (by omega) (by omega) (fun j a b => t4 j a (by omega)) (fun j a b => ⟨a, b⟩) c1 (fun j a b => ?_) fun ι4 d1 d2 => ?_))
            · rw [c2 47 cm j (by omega), b2 47 cm j (by omega)]; exact a2 hr2 j a b
            · have hF : Fr (fM47 cm) ι2 ι4 := (c2.wide fun t i j q => by grind).trans (d2.wide fun t i j q => by grind)
              exact h ι4 (b1.fr hF (fun j => by omega) (by rw [d2 0 0 1 (by omega), c2 0 0 1 (by omega)]; exact b1.1) (by rw [d2 0 0 3 (by omega), c2 0 0 3 (by omega)]; exact b1.2.2.1)) (fun _ => d1) ((a3.trans (b2.wide fun t i j q => by grind)).trans hF)
          · intro ι K H hR eT h hh
            refine goM ι K H hR eT (fun _ ι1 v6 v7 v8 a1 a2 a3 => ?_) (fun e => absurd hr2 e)
            refine e_M_readMap_84_34 (bif_t (by omega) (m_bit' hw (by omega) a1 fun ι2 b1 b2 => bif_t d1 (m_un84_155 12 0 ι2 (by omega) (by omega) (fun j _ _ => by omega) fun ι3 w6 c1 c2 => m_un84_180 (tr := tr) hn.2 htr.2 n.toNat 0 (fun j => j) M ι3 _ _ _ (by omega) (by omega) (fun j a b => t4 j a (by omega)) (fun j a b => ⟨a, b⟩) c1 (fun j a b => ?_) fun ι4 d1 d2 => ?_)))
            · rw [c2 84 0 j (by omega), b2 84 0 j (by omega)]; exact a2 j a b
            · have hF : Fr gM84 ι2 ι4 := (c2.wide fun t i j q => by grind).trans (d2.wide fun t i j q => by grind)
              exact h rfl ι4 (b1.fr hF (fun j => by omega) (by rw [d2 13 0 16 (by omega), c2 13 0 16 (by omega)]; exact b1.1)) d1 ((a3.trans (b2.wide fun t i j q => by grind)).trans hF)
        · refine ⟨p2 + 1, 0, M, by omega, by omega, by omega, t4, ?_, ?_⟩
          · intro ι K H hR eT h
            refine goC ι K H hR eT fun ι1 a1 a2 a3 => ?_
            rw [hr2] at a1
            exact s_bit hw (by omega) a1 fun ι2 b1 b2 => bif_f d1 (h ι2 b1 (fun _ j a b => by rw [b2 47 cm j (by omega)]; exact a2 hr2 j a b) (a3.trans (b2.wide fun t i j q => by grind)))
          · intro ι K H hR eT h hh
            refine goM ι K H hR eT (fun _ ι1 v6 v7 v8 a1 a2 a3 => ?_) (fun e => absurd hr2 e)
            exact e_M_readMap_84_34 (bif_t (by omega) (m_bit' hw (by omega) a1 fun ι2 b1 b2 => bif_f d1 (h rfl ι2 b1 (fun j a b => by rw [b2 84 0 j (by omega)]; exact a2 j a b) (a3.trans (b2.wide fun t i j q => by grind)))))
    · refine ⟨p2, r2, fun _ => 0, by omega, t2, t3, hz, ?_, ?_⟩
      · intro ι K H hR eT h
        refine goC ι K H hR eT fun ι1 a1 a2 a3 => s_number_bad (by rw [a1.2.2.1]; exact hr2) (bif_f (by omega) (h ι1 a1 (fun e => absurd e hr2) a3))
      · intro ι K H hR eT h hh
        exact goM ι K H hR eT (fun e => absurd e hr2) hh
  · refine ⟨p1, r1, fun _ => 0, i1, i2, i3, hz, ?_, ?_⟩
    · intro ι K H hR eT h
      refine i5 ι 72 _ _ (by omega) (by omega) hR fun ι1 a1 a2 a3 => ?_
      have hb : ι1 0 0 3 ≠ 0 := by rw [a1.2.2.1]; exact hr1
      exact e_O_fillMap_47_0 (s_fill47_err hb (s_number_bad hb (bif_f (by omega) (h ι1 a1 (fun e => absurd e hr1) (a3.wide fun t i j q => by grind)))))
    · intro ι K H hR eT h hh
      exact i6 ι 17880 _ _ (by omega) (by omega) hR (fun e => absurd e hr1) (fun _ ι1 a1 a2 a3 => hh hr1 ι1 a1 a2 (a3.wide fun t i j q => by grind))
theorem j_map47 (hw : wfβ β lim) {kd tr : Int} (hkd : 1 ≤ kd ∧ kd ≤ 12) (htr : 1 ≤ tr ∧ tr ≤ 12) (cm p : Int) (hp0 : 0 ≤ p) (hp1 : p ≤ lim) :
    ∃ (p' r : Int) (M' : Int → Int), p ≤ p' ∧ p' ≤ lim ∧ (r = 0 ∨ 0 < r ∧ r < 18) ∧ (∀ j, 0 ≤ j → j < 48 → 0 ≤ M' j ∧ M' j < tr) ∧ (tr = 1 → p' = p ∧ r = 0 ∧ ∀ j, 0 ≤ j → j < 48 → M' j = 0) ∧
    (∀ (ι : bm_S) (v3 v4 v5 : bm_V) (K : bm_S → Prop) (H : Nat × Int → bm_S → Prop), cR ι β lim p 0 → ι 8 0 6 = cm → ι 43 cm 2 = kd → (∀ ι' : bm_S, cR ι' β lim p' r → (r = 0 → ∀ j, 0 ≤ j → j < 48 → ι' 47 cm j = M' j) → Fr (fM47 cm) ι ι' → K ι') → bW sc 83 42 [br 8 0, bi 1, bi tr, v3, v4, v5] [br 47 cm] ι (bk0 K H)) ∧
    (1 < tr → ∀ (ι : bm_S) (K : bm_S → Prop) (H : Nat × Int → bm_S → Prop), mR ι β lim p → (∀ j, 0 ≤ j → j < 48 → ι 84 0 j = 0) → (r = 0 → ∀ ι' : bm_S, mR ι' β lim p' → (∀ j, 0 ≤ j → j < 48 → ι' 84 0 j = M' j) → Fr gM84 ι ι' → K ι') → (r ≠ 0 → ∀ ι' : bm_S, mR ι' β lim p' → ι' 12 0 6 = r → Fr gM84 ι ι' → H (12, 0) ι') → bC sc 196 [br 13 0, br 84 0, bi (4 * kd), bi tr] ι (bk0 K H)) := by
  have w1 := hw.1
  have hmin : min (4 * kd) 48 = 4 * kd := by omega
  have hz : ∀ j : Int, 0 ≤ j → j < 48 → 0 ≤ (fun _ : Int => (0 : Int)) j ∧ (fun _ : Int => (0 : Int)) j < tr := fun j _ _ => ⟨show (0 : Int) ≤ 0 by omega, show (0 : Int) < tr by omega⟩
  by_cases h1 : tr = 1
  · refine ⟨p, 0, fun _ => 0, by omega, hp1, Or.inl rfl, hz, fun _ => ⟨rfl, rfl, fun j _ _ => rfl⟩, ?_, fun e => by omega⟩
    intro ι v3 v4 v5 K H hR h6 hk h
    refine e_O_readTrees_47_42 ⟨rfl, ?_⟩
    rw [h6]
    refine e_L_mapSize_0 (bif_f (by omega) ⟨by omega, by omega, ?_⟩)
    refine s_fill_47 fun ι1 a1 a2 => bif_t (by omega) (h ι1 (hR.fr a2 (fun j => by omega) (by rw [a2 0 0 1 (by omega)]; exact hR.1) (by rw [a2 0 0 3 (by omega)]; exact hR.2.2.1)) (fun _ j a b => a1 j a b) (a2.wide fun t i j q => by grind))
  · have h2 : 2 ≤ tr ∧ tr ≤ 12 := by omega
    by_cases c1 : p = lim
    · subst c1
      refine ⟨p, 1, fun _ => 0, by omega, by omega, by omega, hz, fun e => absurd e h1, ?_, ?_⟩
      · intro ι v3 v4 v5 K H hR h6 hk h
        refine e_O_readTrees_47_42 ⟨rfl, ?_⟩
        rw [h6]
        refine e_L_mapSize_0 (bif_f (by omega) ⟨by omega, by omega, ?_⟩)
        refine s_fill_47 fun ι1 a1 a2 => bif_f (by omega) (s_bit_end hw (hR.fr a2 (fun j => by omega) (by rw [a2 0 0 1 (by omega)]; exact hR.1) (by rw [a2 0 0 3 (by omega)]; exact hR.2.2.1)) fun ι2 b1 b2 => bif_t rfl ⟨by omega, s_mapB47_err (rn := 0) (by rw [b1.2.2.1]; omega) fun ι3 c1 => ?_⟩)
        exact h ι3 (b1.fr c1 (fun j => by omega) (by rw [c1 0 0 1 (by omega)]; exact b1.1) (by rw [c1 0 0 3 (by omega)]; exact b1.2.2.1)) (fun e => by omega) (((a2.wide fun t i j q => by grind).trans (b2.wide fun t i j q => by grind)).trans (c1.wide fun t i j q => by grind))
      · intro _ ι K H hR eT h hh
        exact e_M_readMap_84_0 (m_bit_end' hw hR fun ι1 a1 a2 a3 => hh (by omega) ι1 a1 a2 (a3.wide fun t i j q => by grind))
    · by_cases d1 : β p = 0
      · obtain ⟨p', r, M', t1, t2, t3, t4, t5, t6⟩ := j_mapB47 (sc := sc) (n := 4 * kd) (tr := tr) (rn := 0) hw (by omega) h2 (by omega) cm (p + 1) (by omega) (by omega)
        refine ⟨p', r, M', by omega, t2, t3, t4, fun e => absurd e h1, ?_, ?_⟩
        · intro ι v3 v4 v5 K H hR h6 hk h
          refine e_O_readTrees_47_42 ⟨rfl, ?_⟩
          rw [h6]
          refine e_L_mapSize_0 (bif_f (by omega) ⟨by omega, by omega, ?_⟩)
          rw [hk]
          refine s_fill_47 fun ι1 a1 a2 => bif_f (by omega) (s_bit hw (by omega) (hR.fr a2 (fun j => by omega) (by rw [a2 0 0 1 (by omega)]; exact hR.1) (by rw [a2 0 0 3 (by omega)]; exact hR.2.2.1)) fun ι2 b1 b2 => bif_t d1 ⟨by omega, ?_⟩)
          rw [hmin]
          exact t5 ι2 K H b1 (fun j a b => by rw [b2 47 cm j (by omega)]; exact a1 j a b) fun ι' g1 g2 g3 => h ι' g1 g2 (((a2.wide fun t i j q => by grind).trans (b2.wide fun t i j q => by grind)).trans g3)
        · intro _ ι K H hR eT h hh
          refine e_M_readMap_84_0 (m_bit' hw (by omega) hR fun ι1 a1 a2 => bif_t d1 ⟨by omega, ?_⟩)
          have hF : Fr gM84 ι ι1 := a2.wide fun t i j q => by grind
          exact t6 ι1 K H a1 (fun j a b => by rw [a2 84 0 j (by omega)]; exact eT j a b) (fun e ι' g1 g2 g3 => h e ι' g1 g2 (hF.trans g3)) (fun e ι' g1 g2 g3 => hh e ι' g1 g2 (hF.trans g3))
      · have hv4 := nm_rg (p := p + 1) w1 4
        have e16 : bm_p2 ((4 : Nat) : Int) = 16 := rfl
        have e4 : nm β (p + 1) (Int.toNat 4) = nm β (p + 1) 4 := rfl
        by_cases c2 : p + 1 + 4 ≤ lim
        · obtain ⟨p', r, M', t1, t2, t3, t4, t5, t6⟩ := j_mapB47 (sc := sc) (n := 4 * kd) (tr := tr) (rn := nm β (p + 1) (Int.toNat 4) + 1) hw (by omega) h2 (by omega) cm (p + 1 + 4) (by omega) c2
          refine ⟨p', r, M', by omega, t2, t3, t4, fun e => absurd e h1, ?_, ?_⟩
          · intro ι v3 v4 v5 K H hR h6 hk h
            refine e_O_readTrees_47_42 ⟨rfl, ?_⟩
            rw [h6]
            refine e_L_mapSize_0 (bif_f (by omega) ⟨by omega, by omega, ?_⟩)
            rw [hk]
            refine s_fill_47 fun ι1 a1 a2 => bif_f (by omega) (s_bit hw (by omega) (hR.fr a2 (fun j => by omega) (by rw [a2 0 0 1 (by omega)]; exact hR.1) (by rw [a2 0 0 3 (by omega)]; exact hR.2.2.1)) fun ι2 b1 b2 => bif_f d1 (s_number hw (by omega) (by omega) b1 ⟨by omega, by omega, ?_⟩))
            rw [hmin]
            have hF2 : Fr fR ι1 (up ι2 0 0 1 (p + 1 + 4)) := b2.u (by omega)
            exact t5 _ K H b1.to (fun j a b => by rw [hF2 47 cm j (by omega)]; exact a1 j a b) fun ι' g1 g2 g3 => h ι' g1 g2 (((a2.wide fun t i j q => by grind).trans (hF2.wide fun t i j q => by grind)).trans g3)
          · intro _ ι K H hR eT h hh
            refine e_M_readMap_84_0 (m_bit' hw (by omega) hR fun ι1 a1 a2 => bif_f d1 (m_number hw (by omega) (by omega) a1 ⟨by omega, by omega, ?_⟩))
            have hF1 : Fr gR ι (up ι1 13 0 16 (p + 1 + 4)) := a2.u (by omega)
            have hF : Fr gM84 ι (up ι1 13 0 16 (p + 1 + 4)) := hF1.wide fun t i j q => by grind
            exact t6 _ K H a1.to (fun j a b => by rw [hF1 84 0 j (by omega)]; exact eT j a b) (fun e ι' g1 g2 g3 => h e ι' g1 g2 (hF.trans g3)) (fun e ι' g1 g2 g3 => hh e ι' g1 g2 (hF.trans g3))
        · refine ⟨lim, 1, fun _ => 0, by omega, by omega, by omega, hz, fun e => absurd e h1, ?_, ?_⟩
          · intro ι v3 v4 v5 K H hR h6 hk h
            refine e_O_readTrees_47_42 ⟨rfl, ?_⟩
            rw [h6]
            refine e_L_mapSize_0 (bif_f (by omega) ⟨by omega, by omega, ?_⟩)
            refine s_fill_47 fun ι1 a1 a2 => bif_f (by omega) (s_bit hw (by omega) (hR.fr a2 (fun j => by omega) (by rw [a2 0 0 1 (by omega)]; exact hR.1) (by rw [a2 0 0 3 (by omega)]; exact hR.2.2.1)) fun ι2 b1 b2 => bif_f d1 (s_number_end hw (by omega) b1 ⟨by omega, by omega, s_mapB47_err (rn := 0 + 1) (by simp (disch := omega) only [up_s, up_k, up_j, up_i]; omega) fun ι3 c1 => ?_⟩))
            have hF2 : Fr (fM47 cm) ι (up (up ι2 0 0 1 lim) 0 0 3 1) := (((a2.wide fun t i j q => by grind).trans (b2.wide fun t i j q => by grind)).u (by omega)).u (by omega)
            have hF := hF2.trans (c1.wide (P' := fM47 cm) fun t i j q => by grind)
            exact h ι3 (hR.fr hF (fun j => by omega) (by rw [c1 0 0 1 (by omega)]; simp (disch := omega) only [up_s, up_k, up_j, up_i]) (by rw [c1 0 0 3 (by omega)]; simp (disch := omega) only [up_s, up_k, up_j, up_i])) (fun e => by omega) hF
          · intro _ ι K H hR eT h hh
            refine e_M_readMap_84_0 (m_bit' hw (by omega) hR fun ι1 a1 a2 => bif_f d1 (m_number_end hw (by omega) (by omega) a1 ?_))
            have hF1 : Fr gR ι (up (up ι1 13 0 16 lim) 12 0 6 1) := (a2.u (by omega)).u (by omega)
            exact hh (by omega) _ (hR.fr hF1 (fun j => by omega) (by simp (disch := omega) only [up_s, up_k, up_j, up_i])) (by simp (disch := omega) only [up_s, up_k, up_j, up_i]) (hF1.wide fun t i j q => by grind)
end MapRead
